theorem arrV_ext {c : ClassId} {n : Nat} {f g : Nat → Value} (h : ∀ j, j < n → f j = g j) : arrV c n f = arrV c n g := by
  unfold arrV
  congr 1
  apply Array.ext
  · simp
  · intro j h1 h2
    simp at h1 h2 ⊢
    exact h j (by omega)
def ordL : List Nat := [152, 153, 154, 155, 156, 157, 158, 159, 160, 161, 162, 163, 164, 165, 166, 167, 168, 169, 170, 171, 172, 173, 174, 175, 176, 177, 178, 179, 180, 181, 182, 183, 184, 185, 186, 187, 188, 189, 190, 191, 192, 193, 194, 195, 196, 197, 198, 199, 200, 201, 202, 203, 204, 205, 206, 207, 5, 6, 7, 8, 9, 10, 11, 141, 142, 143, 144, 145, 146, 147, 0, 1, 3, 4, 2, 12, 13, 14, 15, 16, 17, 26, 27, 0, 18, 19, 20, 21, 22, 23, 24, 25, 124, 125, 126, 127, 128, 129, 130, 131, 132, 133, 134, 135, 136, 137, 138, 139, 140, 148, 149, 150, 151, 28, 60, 92, 29, 30, 31, 32, 33, 34, 35, 36, 37, 38, 39, 40, 41, 42, 43, 44, 45, 46, 47, 48, 49, 50, 51, 52, 53, 54, 55, 56, 57, 58, 59, 61, 62, 63, 64, 65, 66, 67, 68, 69, 70, 71, 72, 73, 74, 75, 76, 77, 78, 79, 80, 81, 82, 83, 84, 85, 86, 87, 88, 89, 90, 91, 93, 94, 95, 96, 97, 98, 99, 100, 101, 102, 103, 104, 105, 106, 107, 108, 109, 110, 111, 112, 113, 114, 115, 116, 117, 118, 119, 120, 121, 122, 123, 208, 209, 210, 211, 212, 213, 214, 215, 216, 217, 218, 219, 220, 221, 222, 223, 224, 225, 226, 227, 228, 229, 230, 231, 232, 233, 234, 235]
def invL : List Nat := [70, 71, 74, 72, 73, 56, 57, 58, 59, 60, 61, 62, 75, 76, 77, 78, 79, 80, 84, 85, 86, 87, 88, 89, 90, 91, 81, 82, 113, 116, 117, 118, 119, 120, 121, 122, 123, 124, 125, 126, 127, 128, 129, 130, 131, 132, 133, 134, 135, 136, 137, 138, 139, 140, 141, 142, 143, 144, 145, 146, 114, 147, 148, 149, 150, 151, 152, 153, 154, 155, 156, 157, 158, 159, 160, 161, 162, 163, 164, 165, 166, 167, 168, 169, 170, 171, 172, 173, 174, 175, 176, 177, 115, 178, 179, 180, 181, 182, 183, 184, 185, 186, 187, 188, 189, 190, 191, 192, 193, 194, 195, 196, 197, 198, 199, 200, 201, 202, 203, 204, 205, 206, 207, 208, 92, 93, 94, 95, 96, 97, 98, 99, 100, 101, 102, 103, 104, 105, 106, 107, 108, 63, 64, 65, 66, 67, 68, 69, 109, 110, 111, 112, 0, 1, 2, 3, 4, 5, 6, 7, 8, 9, 10, 11, 12, 13, 14, 15, 16, 17, 18, 19, 20, 21, 22, 23, 24, 25, 26, 27, 28, 29, 30, 31, 32, 33, 34, 35, 36, 37, 38, 39, 40, 41, 42, 43, 44, 45, 46, 47, 48, 49, 50, 51, 52, 53, 54, 55, 209, 210, 211, 212, 213, 214, 215, 216, 217, 218, 219, 220, 221, 222, 223, 224, 225, 226, 227, 228, 229, 230, 231, 232, 233, 234, 235, 236]
def ord (i : Nat) : Nat := ordL.getD i 0
theorem ord_inv : ∀ i, i < 237 → i ≠ 83 → invL.getD (ord i) 0 = i := by decide +kernel
theorem ord_lt : ∀ i, i < 237 → ord i < 236 := by decide +kernel
abbrev Xg (l : Launch) (D : va_G) (cls : Nat → ClassId) (b : Nat) : Wx := (l, D, cls, fun k => b + k)
abbrev Xr (l : Launch) (D : va_G) (cls : Nat → ClassId) (b : Nat) : Wx := (l, D, cls, fun i => b + ord i)
theorem Xg_ax (l : Launch) (D : va_G) (cls : Nat → ClassId) (b : Nat) : Ax (Xg l D cls b) := fun k => by show b + k = b + 0 + k; omega
theorem Xr_inj (l : Launch) (D : va_G) (cls : Nat → ClassId) (b : Nat) : InjX (Xr l D cls b) := by
  intro i j hi hj h1 h2 h
  have e : ord i = ord j := by
    have h : b + ord i = b + ord j := h
    omega
  rw [← ord_inv i hi h1, e, ord_inv j hj h2]
def gB : Nat → aE := st3 (fun _ => bX9) 0 1 oX9 lX9
def gM : Nat → aE := fun k => if k = 208 then bX10 else gB k
def gE : Nat → aE := st3 gM 208 209 (oX10 209) (lX10 209)
def Pbn (l : Launch) (D : va_G) (cls : Nat → ClassId) (b : Nat) (H : Heap) (i : Nat) : Prop := va_at D vwCl (b + ord i, cnc (Xg l D cls b) (gE (ord i))) H → va_at D vwCl (b + ord i, cel (Xr l D cls b) hp0 i) H
theorem cbn {l : Launch} {D : va_G} {cls : Nat → ClassId} {b : Nat} {H : Heap} {i : Nat} (e : aE) (h1 : gE (ord i) = e) (h2 : cnc (Xg l D cls b) e = cel (Xr l D cls b) hp0 i) : Pbn l D cls b H i := fun h => by
  rw [h1, h2] at h
  exact h
theorem cbq {l : Launch} {D : va_G} {cls : Nat → ClassId} {b : Nat} {H : Heap} {i t n : Nat} (g : Nat → Option Nat) (h1 : gE (ord i) = .inr (.inl (t, n, g))) (h2 : cel (Xr l D cls b) hp0 i = .inl (cls t, n, .inr (.inr (.inr (.inr (fun j => some (b + ord (rfs i j)))))))) (h3 : ∀ j, j < n → g j = some (ord (rfs i j))) : Pbn l D cls b H i := fun h => by
  rw [h1] at h
  rw [h2]
  have h4 : H[b + ord i]? = some (vp_cell (cls t) (n, .inr (.inr (.inr (.inr (fun j => (g j).map (fun k => b + k))))))) := h
  show H[b + ord i]? = some (vp_cell (cls t) (n, .inr (.inr (.inr (.inr (fun j => some (b + ord (rfs i j))))))))
  rw [h4, vp_cell_q, vp_cell_q]
  congr 1
  exact arrV_ext (fun j hj => by rw [h3 j hj]; rfl)
theorem cbp {l : Launch} {D : va_G} {cls : Nat → ClassId} {b : Nat} {H : Heap} {i : Nat} (g : Nat → Int32) (h1 : gE (ord i) = iP g) (h2 : cel (Xr l D cls b) hp0 i = .inl (cls 0, 4, .inl (hp0.1 i))) (h3 : ∀ j, j < 4 → g j = hp0.1 i j) : Pbn l D cls b H i := fun h => by
  rw [h1] at h
  rw [h2]
  have h4 : H[b + ord i]? = some (vp_cell (cls 0) (4, .inl g)) := h
  show H[b + ord i]? = some (vp_cell (cls 0) (4, .inl (hp0.1 i)))
  rw [h4, vp_cell_i, vp_cell_i]
  congr 1
  exact arrV_ext (fun j hj => by rw [h3 j hj])
set_option maxRecDepth 100000 in
set_option maxHeartbeats 4000000 in
theorem bnc0 {l : Launch} {D : va_G} {cls : Nat → ClassId} {b : Nat} {H : Heap} (i : Nat) (h1 : 0 ≤ i) (h2 : i < 10) (h3 : i ≠ 83) : Pbn l D cls b H i := by
  rcases (show i = 0 ∨ i = 1 ∨ i = 2 ∨ i = 3 ∨ i = 4 ∨ i = 5 ∨ i = 6 ∨ i = 7 ∨ i = 8 ∨ i = 9 by omega) with rfl | rfl | rfl | rfl | rfl | rfl | rfl | rfl | rfl | rfl
  · exact cbn (oX7 153) rfl rfl
  · exact cbn (iZ 30) rfl rfl
  · exact cbn (iZ 30) rfl rfl
  · exact cbn (iZ 30) rfl rfl
  · exact cbn (iZ 30) rfl rfl
  · exact cbn (lZ 30) rfl rfl
  · exact cbn (lZ 30) rfl rfl
  · exact cbn (oX7 160) rfl rfl
  · exact cbn (iZ 30) rfl rfl
  · exact cbn (iZ 30) rfl rfl
set_option maxRecDepth 100000 in
set_option maxHeartbeats 4000000 in
theorem bnc1 {l : Launch} {D : va_G} {cls : Nat → ClassId} {b : Nat} {H : Heap} (i : Nat) (h1 : 10 ≤ i) (h2 : i < 20) (h3 : i ≠ 83) : Pbn l D cls b H i := by
  rcases (show i = 10 ∨ i = 11 ∨ i = 12 ∨ i = 13 ∨ i = 14 ∨ i = 15 ∨ i = 16 ∨ i = 17 ∨ i = 18 ∨ i = 19 by omega) with rfl | rfl | rfl | rfl | rfl | rfl | rfl | rfl | rfl | rfl
  · exact cbn (iZ 30) rfl rfl
  · exact cbn (iZ 30) rfl rfl
  · exact cbn (lZ 30) rfl rfl
  · exact cbn (lZ 30) rfl rfl
  · exact cbn (oX7 167) rfl rfl
  · exact cbn (iZ 30) rfl rfl
  · exact cbn (iZ 30) rfl rfl
  · exact cbn (iZ 30) rfl rfl
  · exact cbn (iZ 30) rfl rfl
  · exact cbn (lZ 30) rfl rfl
set_option maxRecDepth 100000 in
set_option maxHeartbeats 4000000 in
theorem bnc2 {l : Launch} {D : va_G} {cls : Nat → ClassId} {b : Nat} {H : Heap} (i : Nat) (h1 : 20 ≤ i) (h2 : i < 30) (h3 : i ≠ 83) : Pbn l D cls b H i := by
  rcases (show i = 20 ∨ i = 21 ∨ i = 22 ∨ i = 23 ∨ i = 24 ∨ i = 25 ∨ i = 26 ∨ i = 27 ∨ i = 28 ∨ i = 29 by omega) with rfl | rfl | rfl | rfl | rfl | rfl | rfl | rfl | rfl | rfl
  · exact cbn (lZ 30) rfl rfl
  · exact cbn (oX7 174) rfl rfl
  · exact cbn (iZ 30) rfl rfl
  · exact cbn (iZ 30) rfl rfl
  · exact cbn (iZ 30) rfl rfl
  · exact cbn (iZ 30) rfl rfl
  · exact cbn (lZ 30) rfl rfl
  · exact cbn (lZ 30) rfl rfl
  · exact cbn (oX7 181) rfl rfl
  · exact cbn (iZ 30) rfl rfl
set_option maxRecDepth 100000 in
set_option maxHeartbeats 4000000 in
theorem bnc3 {l : Launch} {D : va_G} {cls : Nat → ClassId} {b : Nat} {H : Heap} (i : Nat) (h1 : 30 ≤ i) (h2 : i < 40) (h3 : i ≠ 83) : Pbn l D cls b H i := by
  rcases (show i = 30 ∨ i = 31 ∨ i = 32 ∨ i = 33 ∨ i = 34 ∨ i = 35 ∨ i = 36 ∨ i = 37 ∨ i = 38 ∨ i = 39 by omega) with rfl | rfl | rfl | rfl | rfl | rfl | rfl | rfl | rfl | rfl
  · exact cbn (iZ 30) rfl rfl
  · exact cbn (iZ 30) rfl rfl
  · exact cbn (iZ 30) rfl rfl
  · exact cbn (lZ 30) rfl rfl
  · exact cbn (lZ 30) rfl rfl
  · exact cbn (oX7 188) rfl rfl
  · exact cbn (iZ 30) rfl rfl
  · exact cbn (iZ 30) rfl rfl
  · exact cbn (iZ 30) rfl rfl
  · exact cbn (iZ 30) rfl rfl
set_option maxRecDepth 100000 in
set_option maxHeartbeats 4000000 in
theorem bnc4 {l : Launch} {D : va_G} {cls : Nat → ClassId} {b : Nat} {H : Heap} (i : Nat) (h1 : 40 ≤ i) (h2 : i < 50) (h3 : i ≠ 83) : Pbn l D cls b H i := by
  rcases (show i = 40 ∨ i = 41 ∨ i = 42 ∨ i = 43 ∨ i = 44 ∨ i = 45 ∨ i = 46 ∨ i = 47 ∨ i = 48 ∨ i = 49 by omega) with rfl | rfl | rfl | rfl | rfl | rfl | rfl | rfl | rfl | rfl
  · exact cbn (lZ 30) rfl rfl
  · exact cbn (lZ 30) rfl rfl
  · exact cbn (oX7 195) rfl rfl
  · exact cbn (iZ 30) rfl rfl
  · exact cbn (iZ 30) rfl rfl
  · exact cbn (iZ 30) rfl rfl
  · exact cbn (iZ 30) rfl rfl
  · exact cbn (lZ 30) rfl rfl
  · exact cbn (lZ 30) rfl rfl
  · exact cbn (oX7 202) rfl rfl
set_option maxRecDepth 100000 in
set_option maxHeartbeats 4000000 in
theorem bnc5 {l : Launch} {D : va_G} {cls : Nat → ClassId} {b : Nat} {H : Heap} (i : Nat) (h1 : 50 ≤ i) (h2 : i < 60) (h3 : i ≠ 83) : Pbn l D cls b H i := by
  rcases (show i = 50 ∨ i = 51 ∨ i = 52 ∨ i = 53 ∨ i = 54 ∨ i = 55 ∨ i = 56 ∨ i = 57 ∨ i = 58 ∨ i = 59 by omega) with rfl | rfl | rfl | rfl | rfl | rfl | rfl | rfl | rfl | rfl
  · exact cbn (iZ 30) rfl rfl
  · exact cbn (iZ 30) rfl rfl
  · exact cbn (iZ 30) rfl rfl
  · exact cbn (iZ 30) rfl rfl
  · exact cbn (lZ 30) rfl rfl
  · exact cbn (lZ 30) rfl rfl
  · exact cbn (oX7 6) rfl rfl
  · exact cbn (iZ 30) rfl rfl
  · exact cbn (iZ 30) rfl rfl
  · exact cbn (iZ 30) rfl rfl
set_option maxRecDepth 100000 in
set_option maxHeartbeats 4000000 in
theorem bnc6 {l : Launch} {D : va_G} {cls : Nat → ClassId} {b : Nat} {H : Heap} (i : Nat) (h1 : 60 ≤ i) (h2 : i < 70) (h3 : i ≠ 83) : Pbn l D cls b H i := by
  rcases (show i = 60 ∨ i = 61 ∨ i = 62 ∨ i = 63 ∨ i = 64 ∨ i = 65 ∨ i = 66 ∨ i = 67 ∨ i = 68 ∨ i = 69 by omega) with rfl | rfl | rfl | rfl | rfl | rfl | rfl | rfl | rfl | rfl
  · exact cbn (iZ 30) rfl rfl
  · exact cbn (lZ 30) rfl rfl
  · exact cbn (lZ 30) rfl rfl
  · exact cbn (oX7 142) rfl rfl
  · exact cbn (iZ 30) rfl rfl
  · exact cbn (iZ 30) rfl rfl
  · exact cbn (iZ 30) rfl rfl
  · exact cbn (iZ 30) rfl rfl
  · exact cbn (lZ 30) rfl rfl
  · exact cbn (lZ 30) rfl rfl
set_option maxRecDepth 100000 in
set_option maxHeartbeats 4000000 in
theorem bnc7 {l : Launch} {D : va_G} {cls : Nat → ClassId} {b : Nat} {H : Heap} (i : Nat) (h1 : 70 ≤ i) (h2 : i < 80) (h3 : i ≠ 83) : Pbn l D cls b H i := by
  rcases (show i = 70 ∨ i = 71 ∨ i = 72 ∨ i = 73 ∨ i = 74 ∨ i = 75 ∨ i = 76 ∨ i = 77 ∨ i = 78 ∨ i = 79 by omega) with rfl | rfl | rfl | rfl | rfl | rfl | rfl | rfl | rfl | rfl
  · exact cbn (oX9) rfl rfl
  · exact cbq (t := 3) (n := 8) gB8 rfl rfl (by decide +kernel)
  · exact cbn (oX6 4) rfl rfl
  · exact cbn (iZ 400) rfl rfl
  · exact cbn (oX5 3) rfl rfl
  · exact cbn (iZ 12) rfl rfl
  · exact cbn (oX8 14) rfl rfl
  · exact cbn (iZ 540) rfl rfl
  · exact cbn (iZ 12) rfl rfl
  · exact cbp (g := upd (upd (upd (upd (fun _ => 0) 0 2) 1 1) 2 3) 3 3) rfl rfl (by decide +kernel)
set_option maxRecDepth 100000 in
set_option maxHeartbeats 4000000 in
theorem bnc8 {l : Launch} {D : va_G} {cls : Nat → ClassId} {b : Nat} {H : Heap} (i : Nat) (h1 : 80 ≤ i) (h2 : i < 90) (h3 : i ≠ 83) : Pbn l D cls b H i := by
  rcases (show i = 80 ∨ i = 81 ∨ i = 82 ∨ i = 84 ∨ i = 85 ∨ i = 86 ∨ i = 87 ∨ i = 88 ∨ i = 89 by omega) with rfl | rfl | rfl | rfl | rfl | rfl | rfl | rfl | rfl
  · exact cbn (oX0 18) rfl rfl
  · exact cbn (iZ 30) rfl rfl
  · exact cbn (iZ 30) rfl rfl
  · exact cbn (oX1 19) rfl rfl
  · exact cbn (iZ 31) rfl rfl
  · exact cbn (iZ 31) rfl rfl
  · exact cbn (zZ 31) rfl rfl
  · exact cbn (oX1 23) rfl rfl
  · exact cbn (iZ 31) rfl rfl
set_option maxRecDepth 100000 in
set_option maxHeartbeats 4000000 in
theorem bnc9 {l : Launch} {D : va_G} {cls : Nat → ClassId} {b : Nat} {H : Heap} (i : Nat) (h1 : 90 ≤ i) (h2 : i < 100) (h3 : i ≠ 83) : Pbn l D cls b H i := by
  rcases (show i = 90 ∨ i = 91 ∨ i = 92 ∨ i = 93 ∨ i = 94 ∨ i = 95 ∨ i = 96 ∨ i = 97 ∨ i = 98 ∨ i = 99 by omega) with rfl | rfl | rfl | rfl | rfl | rfl | rfl | rfl | rfl | rfl
  · exact cbn (iZ 31) rfl rfl
  · exact cbn (zZ 31) rfl rfl
  · exact cbn (oX3 125) rfl rfl
  · exact cbn (iZ 30) rfl rfl
  · exact cbn (iZ 30) rfl rfl
  · exact cbn (iZ 60) rfl rfl
  · exact cbn (iZ 60) rfl rfl
  · exact cbn (iZ 60) rfl rfl
  · exact cbn (iZ 30) rfl rfl
  · exact cbn (zZ 30) rfl rfl
set_option maxRecDepth 100000 in
set_option maxHeartbeats 4000000 in
theorem bnc10 {l : Launch} {D : va_G} {cls : Nat → ClassId} {b : Nat} {H : Heap} (i : Nat) (h1 : 100 ≤ i) (h2 : i < 110) (h3 : i ≠ 83) : Pbn l D cls b H i := by
  rcases (show i = 100 ∨ i = 101 ∨ i = 102 ∨ i = 103 ∨ i = 104 ∨ i = 105 ∨ i = 106 ∨ i = 107 ∨ i = 108 ∨ i = 109 by omega) with rfl | rfl | rfl | rfl | rfl | rfl | rfl | rfl | rfl | rfl
  · exact cbn (oX2 133) rfl rfl
  · exact cbn (iZ 30) rfl rfl
  · exact cbn (iZ 60) rfl rfl
  · exact cbn (lZ 60) rfl rfl
  · exact cbn (lZ 60) rfl rfl
  · exact cbn (iZ 60) rfl rfl
  · exact cbn (iZ 60) rfl rfl
  · exact cbn (iZ 60) rfl rfl
  · exact cbn (oX4 141) rfl rfl
  · exact cbn (iZ 121) rfl rfl
set_option maxRecDepth 100000 in
set_option maxHeartbeats 4000000 in
theorem bnc11 {l : Launch} {D : va_G} {cls : Nat → ClassId} {b : Nat} {H : Heap} (i : Nat) (h1 : 110 ≤ i) (h2 : i < 120) (h3 : i ≠ 83) : Pbn l D cls b H i := by
  rcases (show i = 110 ∨ i = 111 ∨ i = 112 ∨ i = 113 ∨ i = 114 ∨ i = 115 ∨ i = 116 ∨ i = 117 ∨ i = 118 ∨ i = 119 by omega) with rfl | rfl | rfl | rfl | rfl | rfl | rfl | rfl | rfl | rfl
  · exact cbn (iZ 121) rfl rfl
  · exact cbn (iZ 30) rfl rfl
  · exact cbn (iZ 10) rfl rfl
  · exact cbq (t := 4) (n := 31) (fun i => if i < 31 then some (28 + 1 + i) else none) rfl rfl (by decide +kernel)
  · exact cbq (t := 4) (n := 31) (fun i => if i < 31 then some (60 + 1 + i) else none) rfl rfl (by decide +kernel)
  · exact cbq (t := 4) (n := 31) (fun i => if i < 31 then some (92 + 1 + i) else none) rfl rfl (by decide +kernel)
  · exact cbn (iZ 31) rfl rfl
  · exact cbn (iZ 31) rfl rfl
  · exact cbn (iZ 31) rfl rfl
  · exact cbn (iZ 31) rfl rfl
set_option maxRecDepth 100000 in
set_option maxHeartbeats 4000000 in
theorem bnc12 {l : Launch} {D : va_G} {cls : Nat → ClassId} {b : Nat} {H : Heap} (i : Nat) (h1 : 120 ≤ i) (h2 : i < 130) (h3 : i ≠ 83) : Pbn l D cls b H i := by
  rcases (show i = 120 ∨ i = 121 ∨ i = 122 ∨ i = 123 ∨ i = 124 ∨ i = 125 ∨ i = 126 ∨ i = 127 ∨ i = 128 ∨ i = 129 by omega) with rfl | rfl | rfl | rfl | rfl | rfl | rfl | rfl | rfl | rfl
  · exact cbn (iZ 31) rfl rfl
  · exact cbn (iZ 31) rfl rfl
  · exact cbn (iZ 31) rfl rfl
  · exact cbn (iZ 31) rfl rfl
  · exact cbn (iZ 31) rfl rfl
  · exact cbn (iZ 31) rfl rfl
  · exact cbn (iZ 31) rfl rfl
  · exact cbn (iZ 31) rfl rfl
  · exact cbn (iZ 31) rfl rfl
  · exact cbn (iZ 31) rfl rfl
set_option maxRecDepth 100000 in
set_option maxHeartbeats 4000000 in
theorem bnc13 {l : Launch} {D : va_G} {cls : Nat → ClassId} {b : Nat} {H : Heap} (i : Nat) (h1 : 130 ≤ i) (h2 : i < 140) (h3 : i ≠ 83) : Pbn l D cls b H i := by
  rcases (show i = 130 ∨ i = 131 ∨ i = 132 ∨ i = 133 ∨ i = 134 ∨ i = 135 ∨ i = 136 ∨ i = 137 ∨ i = 138 ∨ i = 139 by omega) with rfl | rfl | rfl | rfl | rfl | rfl | rfl | rfl | rfl | rfl
  · exact cbn (iZ 31) rfl rfl
  · exact cbn (iZ 31) rfl rfl
  · exact cbn (iZ 31) rfl rfl
  · exact cbn (iZ 31) rfl rfl
  · exact cbn (iZ 31) rfl rfl
  · exact cbn (iZ 31) rfl rfl
  · exact cbn (iZ 31) rfl rfl
  · exact cbn (iZ 31) rfl rfl
  · exact cbn (iZ 31) rfl rfl
  · exact cbn (iZ 31) rfl rfl
set_option maxRecDepth 100000 in
set_option maxHeartbeats 4000000 in
theorem bnc14 {l : Launch} {D : va_G} {cls : Nat → ClassId} {b : Nat} {H : Heap} (i : Nat) (h1 : 140 ≤ i) (h2 : i < 150) (h3 : i ≠ 83) : Pbn l D cls b H i := by
  rcases (show i = 140 ∨ i = 141 ∨ i = 142 ∨ i = 143 ∨ i = 144 ∨ i = 145 ∨ i = 146 ∨ i = 147 ∨ i = 148 ∨ i = 149 by omega) with rfl | rfl | rfl | rfl | rfl | rfl | rfl | rfl | rfl | rfl
  · exact cbn (iZ 31) rfl rfl
  · exact cbn (iZ 31) rfl rfl
  · exact cbn (iZ 31) rfl rfl
  · exact cbn (iZ 31) rfl rfl
  · exact cbn (iZ 31) rfl rfl
  · exact cbn (iZ 31) rfl rfl
  · exact cbn (iZ 31) rfl rfl
  · exact cbn (iZ 31) rfl rfl
  · exact cbn (iZ 31) rfl rfl
  · exact cbn (iZ 31) rfl rfl
set_option maxRecDepth 100000 in
set_option maxHeartbeats 4000000 in
theorem bnc15 {l : Launch} {D : va_G} {cls : Nat → ClassId} {b : Nat} {H : Heap} (i : Nat) (h1 : 150 ≤ i) (h2 : i < 160) (h3 : i ≠ 83) : Pbn l D cls b H i := by
  rcases (show i = 150 ∨ i = 151 ∨ i = 152 ∨ i = 153 ∨ i = 154 ∨ i = 155 ∨ i = 156 ∨ i = 157 ∨ i = 158 ∨ i = 159 by omega) with rfl | rfl | rfl | rfl | rfl | rfl | rfl | rfl | rfl | rfl
  · exact cbn (iZ 31) rfl rfl
  · exact cbn (iZ 31) rfl rfl
  · exact cbn (iZ 31) rfl rfl
  · exact cbn (iZ 31) rfl rfl
  · exact cbn (iZ 31) rfl rfl
  · exact cbn (iZ 31) rfl rfl
  · exact cbn (iZ 31) rfl rfl
  · exact cbn (iZ 31) rfl rfl
  · exact cbn (iZ 31) rfl rfl
  · exact cbn (iZ 31) rfl rfl
set_option maxRecDepth 100000 in
set_option maxHeartbeats 4000000 in
theorem bnc16 {l : Launch} {D : va_G} {cls : Nat → ClassId} {b : Nat} {H : Heap} (i : Nat) (h1 : 160 ≤ i) (h2 : i < 170) (h3 : i ≠ 83) : Pbn l D cls b H i := by
  rcases (show i = 160 ∨ i = 161 ∨ i = 162 ∨ i = 163 ∨ i = 164 ∨ i = 165 ∨ i = 166 ∨ i = 167 ∨ i = 168 ∨ i = 169 by omega) with rfl | rfl | rfl | rfl | rfl | rfl | rfl | rfl | rfl | rfl
  · exact cbn (iZ 31) rfl rfl
  · exact cbn (iZ 31) rfl rfl
  · exact cbn (iZ 31) rfl rfl
  · exact cbn (iZ 31) rfl rfl
  · exact cbn (iZ 31) rfl rfl
  · exact cbn (iZ 31) rfl rfl
  · exact cbn (iZ 31) rfl rfl
  · exact cbn (iZ 31) rfl rfl
  · exact cbn (iZ 31) rfl rfl
  · exact cbn (iZ 31) rfl rfl
set_option maxRecDepth 100000 in
set_option maxHeartbeats 4000000 in
theorem bnc17 {l : Launch} {D : va_G} {cls : Nat → ClassId} {b : Nat} {H : Heap} (i : Nat) (h1 : 170 ≤ i) (h2 : i < 180) (h3 : i ≠ 83) : Pbn l D cls b H i := by
  rcases (show i = 170 ∨ i = 171 ∨ i = 172 ∨ i = 173 ∨ i = 174 ∨ i = 175 ∨ i = 176 ∨ i = 177 ∨ i = 178 ∨ i = 179 by omega) with rfl | rfl | rfl | rfl | rfl | rfl | rfl | rfl | rfl | rfl
  · exact cbn (iZ 31) rfl rfl
  · exact cbn (iZ 31) rfl rfl
  · exact cbn (iZ 31) rfl rfl
  · exact cbn (iZ 31) rfl rfl
  · exact cbn (iZ 31) rfl rfl
  · exact cbn (iZ 31) rfl rfl
  · exact cbn (iZ 31) rfl rfl
  · exact cbn (iZ 31) rfl rfl
  · exact cbn (iZ 31) rfl rfl
  · exact cbn (iZ 31) rfl rfl
set_option maxRecDepth 100000 in
set_option maxHeartbeats 4000000 in
theorem bnc18 {l : Launch} {D : va_G} {cls : Nat → ClassId} {b : Nat} {H : Heap} (i : Nat) (h1 : 180 ≤ i) (h2 : i < 190) (h3 : i ≠ 83) : Pbn l D cls b H i := by
  rcases (show i = 180 ∨ i = 181 ∨ i = 182 ∨ i = 183 ∨ i = 184 ∨ i = 185 ∨ i = 186 ∨ i = 187 ∨ i = 188 ∨ i = 189 by omega) with rfl | rfl | rfl | rfl | rfl | rfl | rfl | rfl | rfl | rfl
  · exact cbn (iZ 31) rfl rfl
  · exact cbn (iZ 31) rfl rfl
  · exact cbn (iZ 31) rfl rfl
  · exact cbn (iZ 31) rfl rfl
  · exact cbn (iZ 31) rfl rfl
  · exact cbn (iZ 31) rfl rfl
  · exact cbn (iZ 31) rfl rfl
  · exact cbn (iZ 31) rfl rfl
  · exact cbn (iZ 31) rfl rfl
  · exact cbn (iZ 31) rfl rfl
set_option maxRecDepth 100000 in
set_option maxHeartbeats 4000000 in
theorem bnc19 {l : Launch} {D : va_G} {cls : Nat → ClassId} {b : Nat} {H : Heap} (i : Nat) (h1 : 190 ≤ i) (h2 : i < 200) (h3 : i ≠ 83) : Pbn l D cls b H i := by
  rcases (show i = 190 ∨ i = 191 ∨ i = 192 ∨ i = 193 ∨ i = 194 ∨ i = 195 ∨ i = 196 ∨ i = 197 ∨ i = 198 ∨ i = 199 by omega) with rfl | rfl | rfl | rfl | rfl | rfl | rfl | rfl | rfl | rfl
  · exact cbn (iZ 31) rfl rfl
  · exact cbn (iZ 31) rfl rfl
  · exact cbn (iZ 31) rfl rfl
  · exact cbn (iZ 31) rfl rfl
  · exact cbn (iZ 31) rfl rfl
  · exact cbn (iZ 31) rfl rfl
  · exact cbn (iZ 31) rfl rfl
  · exact cbn (iZ 31) rfl rfl
  · exact cbn (iZ 31) rfl rfl
  · exact cbn (iZ 31) rfl rfl
set_option maxRecDepth 100000 in
set_option maxHeartbeats 4000000 in
theorem bnc20 {l : Launch} {D : va_G} {cls : Nat → ClassId} {b : Nat} {H : Heap} (i : Nat) (h1 : 200 ≤ i) (h2 : i < 210) (h3 : i ≠ 83) : Pbn l D cls b H i := by
  rcases (show i = 200 ∨ i = 201 ∨ i = 202 ∨ i = 203 ∨ i = 204 ∨ i = 205 ∨ i = 206 ∨ i = 207 ∨ i = 208 ∨ i = 209 by omega) with rfl | rfl | rfl | rfl | rfl | rfl | rfl | rfl | rfl | rfl
  · exact cbn (iZ 31) rfl rfl
  · exact cbn (iZ 31) rfl rfl
  · exact cbn (iZ 31) rfl rfl
  · exact cbn (iZ 31) rfl rfl
  · exact cbn (iZ 31) rfl rfl
  · exact cbn (iZ 31) rfl rfl
  · exact cbn (iZ 31) rfl rfl
  · exact cbn (iZ 31) rfl rfl
  · exact cbn (iZ 31) rfl rfl
  · exact cbn (oX10 209) rfl rfl
set_option maxRecDepth 100000 in
set_option maxHeartbeats 4000000 in
theorem bnc21 {l : Launch} {D : va_G} {cls : Nat → ClassId} {b : Nat} {H : Heap} (i : Nat) (h1 : 210 ≤ i) (h2 : i < 220) (h3 : i ≠ 83) : Pbn l D cls b H i := by
  rcases (show i = 210 ∨ i = 211 ∨ i = 212 ∨ i = 213 ∨ i = 214 ∨ i = 215 ∨ i = 216 ∨ i = 217 ∨ i = 218 ∨ i = 219 by omega) with rfl | rfl | rfl | rfl | rfl | rfl | rfl | rfl | rfl | rfl
  · exact cbn (iZ 6270) rfl rfl
  · exact cbn (iZ 11) rfl rfl
  · exact cbn (iZ 400) rfl rfl
  · exact cbn (iZ 2000) rfl rfl
  · exact cbp (g := upd (upd (upd (upd (fun _ => 0) 0 2) 1 1) 2 3) 3 3) rfl rfl (by decide +kernel)
  · exact cbn (iZ 10) rfl rfl
  · exact cbn (iZ 13) rfl rfl
  · exact cbn (iZ 13) rfl rfl
  · exact cbn (iZ 60) rfl rfl
  · exact cbn (iZ 60) rfl rfl
set_option maxRecDepth 100000 in
set_option maxHeartbeats 4000000 in
theorem bnc22 {l : Launch} {D : va_G} {cls : Nat → ClassId} {b : Nat} {H : Heap} (i : Nat) (h1 : 220 ≤ i) (h2 : i < 230) (h3 : i ≠ 83) : Pbn l D cls b H i := by
  rcases (show i = 220 ∨ i = 221 ∨ i = 222 ∨ i = 223 ∨ i = 224 ∨ i = 225 ∨ i = 226 ∨ i = 227 ∨ i = 228 ∨ i = 229 by omega) with rfl | rfl | rfl | rfl | rfl | rfl | rfl | rfl | rfl | rfl
  · exact cbn (iZ 923521) rfl rfl
  · exact cbn (iZ 30) rfl rfl
  · exact cbn (iZ 30) rfl rfl
  · exact cbn (iZ 64) rfl rfl
  · exact cbn (iZ 64) rfl rfl
  · exact cbn (iZ 64) rfl rfl
  · exact cbn (iZ 64) rfl rfl
  · exact cbn (iZ 30) rfl rfl
  · exact cbn (iZ 30) rfl rfl
  · exact cbn (iZ 130) rfl rfl
set_option maxRecDepth 100000 in
set_option maxHeartbeats 4000000 in
theorem bnc23 {l : Launch} {D : va_G} {cls : Nat → ClassId} {b : Nat} {H : Heap} (i : Nat) (h1 : 230 ≤ i) (h2 : i < 237) (h3 : i ≠ 83) : Pbn l D cls b H i := by
  rcases (show i = 230 ∨ i = 231 ∨ i = 232 ∨ i = 233 ∨ i = 234 ∨ i = 235 ∨ i = 236 by omega) with rfl | rfl | rfl | rfl | rfl | rfl | rfl
  · exact cbn (iZ 130) rfl rfl
  · exact cbn (iZ 130) rfl rfl
  · exact cbn (iZ 60) rfl rfl
  · exact cbn (iZ 130) rfl rfl
  · exact cbn (iZ 130) rfl rfl
  · exact cbn (iZ 1000) rfl rfl
  · exact cbn (iZ 1000) rfl rfl
theorem bn_all {l : Launch} {D : va_G} {cls : Nat → ClassId} {b : Nat} {H : Heap} (i : Nat) (h2 : i < 237) (h3 : i ≠ 83) : Pbn l D cls b H i := by
  by_cases q0 : i < 10
  · exact bnc0 i (by omega) q0 h3
  by_cases q10 : i < 20
  · exact bnc1 i (by omega) q10 h3
  by_cases q20 : i < 30
  · exact bnc2 i (by omega) q20 h3
  by_cases q30 : i < 40
  · exact bnc3 i (by omega) q30 h3
  by_cases q40 : i < 50
  · exact bnc4 i (by omega) q40 h3
  by_cases q50 : i < 60
  · exact bnc5 i (by omega) q50 h3
  by_cases q60 : i < 70
  · exact bnc6 i (by omega) q60 h3
  by_cases q70 : i < 80
  · exact bnc7 i (by omega) q70 h3
  by_cases q80 : i < 90
  · exact bnc8 i (by omega) q80 h3
  by_cases q90 : i < 100
  · exact bnc9 i (by omega) q90 h3
  by_cases q100 : i < 110
  · exact bnc10 i (by omega) q100 h3
  by_cases q110 : i < 120
  · exact bnc11 i (by omega) q110 h3
  by_cases q120 : i < 130
  · exact bnc12 i (by omega) q120 h3
  by_cases q130 : i < 140
  · exact bnc13 i (by omega) q130 h3
  by_cases q140 : i < 150
  · exact bnc14 i (by omega) q140 h3
  by_cases q150 : i < 160
  · exact bnc15 i (by omega) q150 h3
  by_cases q160 : i < 170
  · exact bnc16 i (by omega) q160 h3
  by_cases q170 : i < 180
  · exact bnc17 i (by omega) q170 h3
  by_cases q180 : i < 190
  · exact bnc18 i (by omega) q180 h3
  by_cases q190 : i < 200
  · exact bnc19 i (by omega) q190 h3
  by_cases q200 : i < 210
  · exact bnc20 i (by omega) q200 h3
  by_cases q210 : i < 220
  · exact bnc21 i (by omega) q210 h3
  by_cases q220 : i < 230
  · exact bnc22 i (by omega) q220 h3
  exact bnc23 i (by omega) h2 h3
/-- what the two constructors leave is the running world's start -/
theorem born {l : Launch} {D : va_G} {cls : Nat → ClassId} {b : Nat} {H : Heap} (h : va_P D vwCl (wg (Xg l D cls b) 236 gE) H) : va_P D vwCl (wl (Xr l D cls b) hp0) H := by
  intro k q hk
  have hl : k < NID - 1 := by rw [← wl_len (Xr l D cls b) hp0]; exact (List.getElem?_eq_some_iff.mp hk).1
  rw [wl_at (Xr l D cls b) hp0 hl] at hk
  cases hk
  have hi := ix_lt hl
  exact bn_all (ix k) hi (ix_ne k) (h (ord (ix k)) _ (wg_get (Xg l D cls b) gE (ord_lt (ix k) hi)))
