/-! ===== every call, class and reference alike ===== -/
theorem vN_lt {S : Sv} {c : Nat} (o : Ok S c) (hc : c < 512) : vN S < 2 ^ 31 := by
  have := o.2.2.1
  omega
theorem op_feed (a0 : Int64) (a1 : Int32) : OpOk mX9_feed mX10_feed [.long a0, .int a1] := fun X S c h rc rm o hc => ⟨spFeed S a0 a1, okFeed o a0 a1, feedC (d := 59) rc o, fun h1 r1 => feedM (d := 59) r1 o⟩
theorem op_read (a0 : Int32) : OpOk mX9_read mX10_read [.int a0] := fun X S c h rc rm o hc => ⟨spRead S a0, okRead o hc a0, readC (d := 54) rc o hc, fun h1 r1 => readM (d := 54) r1 o hc⟩
theorem op_write (a0 : Int32) : OpOk mX9_write mX10_write [.int a0] := fun X S c h rc rm o hc => ⟨spWrite S a0, okWrite o a0, writeC (d := 55) rc o, fun h1 r1 => writeM (d := 56) r1 o⟩
theorem op_letter (a0 : Int32) : OpOk mX9_letter mX10_letter [.int a0] := fun X S c h rc rm o hc => ⟨spLetter S a0, okLetter o a0, letterC (d := 60) rc o, fun h1 r1 => letterM (d := 59) r1 o⟩
theorem op_copy (a0 : Int32) (a1 : Int32) : OpOk mX9_copy mX10_copy [.int a0, .int a1] := fun X S c h rc rm o hc => ⟨spCopy S a0 a1, okCopy o a0 a1, copyC (d := 57) rc o, fun h1 r1 => copyM (d := 57) r1 o⟩
theorem op_clear (a0 : Int32) : OpOk mX9_clear mX10_clear [.int a0] := fun X S c h rc rm o hc => ⟨spClear S a0, okClear o a0, clearC (d := 59) rc o, fun h1 r1 => clearM (d := 58) r1 o⟩
theorem op_node (a0 : Int32) (a1 : Int32) (a2 : Int32) : OpOk mX9_node mX10_node [.int a0, .int a1, .int a2] := fun X S c h rc rm o hc => ⟨spNode S a0 a1 a2, okNode o a0 a1 a2, nodeC (d := 57) rc o, fun h1 r1 => nodeM (d := 56) r1 o⟩
theorem op_size (a0 : Int32) : OpOk mX9_size mX10_size [.int a0] := fun X S c h rc rm o hc => ⟨spSize S a0, okSize o a0, sizeC (d := 58) rc o, fun h1 r1 => sizeM (d := 57) r1 o⟩
theorem op_relabel (a0 : Int32) (a1 : Int32) : OpOk mX9_relabel mX10_relabel [.int a0, .int a1] := fun X S c h rc rm o hc => ⟨spRelabel S a0 a1, okRelabel o a0 a1, relabelC (d := 55) rc o, fun h1 r1 => relabelM (d := 57) r1 o⟩
theorem op_retext (a0 : Int32) (a1 : Int32) : OpOk mX9_retext mX10_retext [.int a0, .int a1] := fun X S c h rc rm o hc => ⟨spRetext S a0 a1, okRetext o a0 a1, retextC (d := 56) rc o, fun h1 r1 => retextM (d := 57) r1 o⟩
theorem op_put (a0 : Int32) (a1 : Int32) (a2 : Int32) (a3 : Int32) (a4 : Int32) : OpOk mX9_put mX10_put [.int a0, .int a1, .int a2, .int a3, .int a4] := fun X S c h rc rm o hc => ⟨spPut S a0 a1 a2 a3 a4, okPut o hc a0 a1 a2 a3 a4, putC (d := 55) rc o hc, fun h1 r1 => putM (d := 56) r1 o hc⟩
theorem op_take (a0 : Int32) (a1 : Int32) : OpOk mX9_take mX10_take [.int a0, .int a1] := fun X S c h rc rm o hc => ⟨spTake S a0 a1, okTake o a0 a1, takeC (d := 55) rc o, fun h1 r1 => takeM (d := 56) r1 o⟩
theorem op_move (a0 : Int32) (a1 : Int32) (a2 : Int32) (a3 : Int32) : OpOk mX9_move mX10_move [.int a0, .int a1, .int a2, .int a3] := fun X S c h rc rm o hc => ⟨spMove S a0 a1 a2 a3, okMove o a0 a1 a2 a3, moveC (d := 55) rc o, fun h1 r1 => moveM (d := 56) r1 o⟩
theorem op_price (a0 : Int32) (a1 : Int32) : OpOk mX9_price mX10_price [.int a0, .int a1] := fun X S c h rc rm o hc => ⟨spPrice S a0 a1, okPrice o a0 a1, priceC (d := 59) rc, fun h1 r1 => priceM (d := 59) r1⟩
theorem op_distance (a0 : Int32) (a1 : Int32) : OpOk mX9_distance mX10_distance [.int a0, .int a1] := fun X S c h rc rm o hc => ⟨spDist S a0 a1, okDist o a0 a1, distC (d := 56) rc o, fun h1 r1 => distM (d := 54) r1 o⟩
theorem op_map (a0 : Int32) (a1 : Int32) : OpOk mX9_map mX10_map [.int a0, .int a1] := fun X S c h rc rm o hc => ⟨spMap S a0 a1, okMap o a0 a1, mapC (d := 56) rc o, fun h1 r1 => mapM (d := 54) r1 o⟩
theorem op_pair (a0 : Int32) (a1 : Int32) : OpOk mX9_pair mX10_pair [.int a0, .int a1] := fun X S c h rc rm o hc => ⟨spPair S a0 a1, okPair o a0 a1, pairC (d := 59) rc o, fun h1 r1 => pairM (d := 59) r1 o⟩
theorem op_acts : OpOk mX9_acts mX10_acts [] := fun X S c h rc rm o hc => ⟨(nI (vM S).2.2.2.2.1, S), o.up, actsC (d := 60) rc, fun h1 r1 => actsM (d := 60) r1⟩
theorem op_act (a0 : Int32) (a1 : Int32) : OpOk mX9_act mX10_act [.int a0, .int a1] := fun X S c h rc rm o hc => ⟨spAct S a0 a1, okAct o a0 a1, actC (d := 59) rc o, fun h1 r1 => actM (d := 59) r1 o⟩
theorem op_like : OpOk mX9_like mX10_like [] := fun X S c h rc rm o hc => ⟨spLike S, okLike o, likeC (d := 59) rc o, fun h1 r1 => likeM (d := 59) r1 o⟩
theorem op_same (a0 : Int32) (a1 : Int32) : OpOk mX9_same mX10_same [.int a0, .int a1] := fun X S c h rc rm o hc => ⟨spSame S a0 a1, okSame o a0 a1, sameC (d := 56) rc o, fun h1 r1 => sameM (d := 54) r1 o⟩
theorem op_unlike (a0 : Int32) : OpOk mX9_unlike mX10_unlike [.int a0] := fun X S c h rc rm o hc => ⟨spUnlike S a0, okUnlike o a0, unlikeC (d := 56) rc o, fun h1 r1 => unlikeM (d := 54) r1 o⟩
theorem op_shared (a0 : Int32) (a1 : Int32) : OpOk mX9_shared mX10_shared [.int a0, .int a1] := fun X S c h rc rm o hc => ⟨spShared S a0 a1, okShared o a0 a1, sharedC (d := 56) rc o, fun h1 r1 => sharedM (d := 54) r1 o⟩
theorem op_merge (a0 : Int32) (a1 : Int32) (a2 : Int32) (a3 : Int32) : OpOk mX9_merge mX10_merge [.int a0, .int a1, .int a2, .int a3] := fun X S c h rc rm o hc => ⟨spMerge S a0 a1 a2 a3, okMerge o (vN_lt o hc) a0 a1 a2 a3, mergeC (d := 30) rc o (vN_lt o hc), fun h1 r1 => mergeM (d := 53) r1 o (vN_lt o hc)⟩
theorem op_merged : OpOk mX9_merged mX10_merged [] := fun X S c h rc rm o hc => ⟨(nI (vG S).1, S), o.up, mergedC (d := 60) rc, fun h1 r1 => mergedM (d := 60) r1⟩
theorem op_clash (a0 : Int32) (a1 : Int32) : OpOk mX9_clash mX10_clash [.int a0, .int a1] := fun X S c h rc rm o hc => ⟨spClash S a0 a1, okClash o a0 a1, clashC (d := 59) rc o, fun h1 r1 => clashM (d := 59) r1 o⟩
theorem op_found (a0 : Int32) : OpOk mX9_found mX10_found [.int a0] := fun X S c h rc rm o hc => ⟨spFound S a0, okFound o a0, foundC (d := 59) rc, fun h1 r1 => foundM (d := 59) r1⟩
theorem allOps : AllOps := ⟨op_feed, op_read, op_write, op_letter, op_copy, op_clear, op_node, op_size, op_relabel, op_retext, op_put, op_take, op_move, op_price, op_distance, op_map, op_pair, op_acts, op_act, op_like, op_same, op_unlike, op_shared, op_merge, op_merged, op_clash, op_found⟩
