/** The edges of prices, distances, mappings and of SAME (terms 3 to 5, promises 15 to 24), each sentence by itself. */
public final class PriceEdgesTest {
    private static final String UNLIKE = "r(a,b,c,d,e,f,g,h,i,j,k,l,m,n,o,p,q,s,t,u,v,w,x,y,z,aa,ab,ac,ad)";

    private PriceEdgesTest() {
    }

    public static void main(String[] args) {
        pricesAtFirst();
        priceBeyond();
        pairsOfOneKind();
        wholesAlike();
        costOfPairs();
        costOfLonelyNodes();
        relationsAlike();
        leastAndGreatestDistance();
        mappingPairsFirst();
        mappingLeavesXFirst();
        mappingUnderAPair();
        mappingNoneLeft();
        mappingOfFullTrees();
        mendingOrder();
        mendingRoots();
        mapTillTheNext();
        mapRefused();
        pairs();
        acts();
        act();
        mostActs();
        pricesAsTheyWere();
        like();
        sameFields();
        sameOrder();
        sameRefused();
        unlike();
        shared();
        comparedAgainAndAgain();
        Bench.end("edges of prices and comparisons");
    }

    private static void setPrices(BranchMender mender, int relabel, int retext, int put, int take) {
        mender.price(0, relabel);
        mender.price(1, retext);
        mender.price(2, put);
        mender.price(3, take);
    }

    private static void dueMapping(BranchMender mender, String pairs, String acts) {
        int count = mender.map(0, 1);
        Bench.due("how many pairs", count, pairs.isEmpty() ? 0 : pairs.split(" ").length);
        Bench.due("pairs", Bench.pairs(mender), pairs);
        Bench.due("acts", Bench.acts(mender), acts);
    }

    private static void pricesAtFirst() {
        Bench.sentence("0 RELABEL (at first 2), 1 RETEXT (1), 2 PUT (3), 3 TAKE (3)");
        BranchMender mender = Bench.with("a", "b", "a=1", "a(b)");
        Bench.due("RELABEL", mender.distance(0, 1), 2);
        Bench.due("RETEXT", mender.distance(0, 2), 1);
        Bench.due("PUT", mender.distance(0, 3), 3);
        Bench.due("TAKE", mender.distance(3, 0), 3);
        mender.price(2, 5);
        mender.price(3, 7);
        Bench.due("PUT by itself", mender.distance(0, 3), 5);
        Bench.due("TAKE by itself", mender.distance(3, 0), 7);
    }

    private static void priceBeyond() {
        Bench.sentence("BEYOND: another act, or v isn't 0 .. 1000.");
        BranchMender mender = new BranchMender();
        int[] otherActs = {-1, 4, Bench.MIN, Bench.MAX};
        for (int act : otherActs) {
            Bench.due("act " + act, mender.price(act, 1), Bench.BEYOND);
        }
        int[] first = {2, 1, 3, 3};
        int[] wrongPrices = {-1, 1001, Bench.MIN, Bench.MAX};
        for (int act = 0; act < 4; act++) {
            for (int v : wrongPrices) {
                Bench.due("price " + v, mender.price(act, v), Bench.BEYOND);
            }
            Bench.due("as it was", mender.price(act, 0), first[act]);
            Bench.due("least", mender.price(act, 1000), 0);
            Bench.due("greatest", mender.price(act, 1), 1000);
        }
        for (int act = 0; act < 4; act++) {
            Bench.due("each by itself", mender.price(act, 0), 1);
        }
    }

    private static void pairsOfOneKind() {
        Bench.sentence("and only of one kind");
        String[] kinds = {"a", "a{}", "a<>", "a!"};
        for (int i = 0; i < 4; i++) {
            for (int j = 0; j < 4; j++) {
                BranchMender mender = Bench.with(kinds[i], kinds[j]);
                Bench.due(kinds[i] + " to " + kinds[j], mender.distance(0, 1), i == j ? 0 : 6);
                Bench.due("pairs", mender.map(0, 1), i == j ? 1 : 0);
                setPrices(mender, 0, 0, 1000, 1000);
                Bench.due("at any price", mender.map(0, 1), i == j ? 1 : 0);
            }
        }
    }

    private static void wholesAlike() {
        Bench.sentence("WHOLE ones only with the same label and text");
        String[] texts = {"w!", "v!", "w=1!", "w=2!"};
        for (int i = 0; i < 4; i++) {
            for (int j = 0; j < 4; j++) {
                BranchMender mender = Bench.with(texts[i], texts[j]);
                Bench.due(texts[i] + " to " + texts[j], mender.distance(0, 1), i == j ? 0 : 6);
                setPrices(mender, 0, 0, 1000, 1000);
                Bench.due("at any price", mender.distance(0, 1), i == j ? 0 : 2000);
                Bench.due("pairs", mender.map(0, 1), i == j ? 1 : 0);
            }
        }
    }

    private static void costOfPairs() {
        Bench.sentence("for each pair RELABEL if the labels differ, and RETEXT if the texts differ");
        String[] kinds = {"", "{}", "<>"};
        for (String kind : kinds) {
            BranchMender mender = Bench.with("a" + kind, "b" + kind, "a=1" + kind, "b=1" + kind, "aa" + kind, "a=11" + kind);
            Bench.due("both alike", mender.distance(0, 0), 0);
            Bench.due("labels", mender.distance(0, 1), 2);
            Bench.due("texts", mender.distance(0, 2), 1);
            Bench.due("both", mender.distance(0, 3), 3);
            Bench.due("a label that begins alike", mender.distance(0, 4), 2);
            Bench.due("a text that begins alike", mender.distance(2, 5), 1);
        }
        BranchMender last = Bench.with("abcdef=12345678", "abcdeg=12345678", "abcdef=12345679");
        Bench.due("the sixth letter", last.distance(0, 1), 2);
        Bench.due("the eighth sign", last.distance(0, 2), 1);
    }

    private static void costOfLonelyNodes() {
        Bench.sentence("TAKE for each node of the first tree, PUT for each of the second one that is in no pair");
        BranchMender mender = Bench.with("r", Bench.flat(30));
        setPrices(mender, 0, 0, 7, 5);
        Bench.due("29 are put", mender.distance(0, 1), 29 * 7);
        Bench.due("29 are taken", mender.distance(1, 0), 29 * 5);
        BranchMender kinds = Bench.with("r(a,b)", "r{a{},b{}}");
        setPrices(kinds, 0, 0, 7, 5);
        Bench.due("all three of both", kinds.distance(0, 1), 3 * 7 + 3 * 5);
    }

    private static void relationsAlike() {
        Bench.sentence("so that of two pairs the one's nodes are above, below, left of or right of the other's alike in both trees");
        Bench.due("above and below", distance("r(a(w!))", "r(a,w!)"), 6);
        BranchMender left = Bench.with("r(u!,v!)", "r(v!,u!)");
        Bench.due("left and right", left.distance(0, 1), 6);
        BranchMender above = Bench.with("r(k<w!>)", "r(w!,k<>)");
        Bench.due("under it or left of it", above.distance(0, 1), 6);
        Bench.due("a node between may go", distance("r(a(w!))", "r(w!)"), 3);
        Bench.due("a node between may come", distance("r(w!)", "r(a(w!))"), 3);
        Bench.due("bags have an order, too", distance("r{u!,v!}", "r{v!,u!}"), 6);
        Bench.due("and keyed ones", distance("r<u!,v!>", "r<v!,u!>"), 6);
    }

    private static int distance(String first, String second) {
        return Bench.with(first, second).distance(0, 1);
    }

    private static void leastAndGreatestDistance() {
        Bench.sentence("PRICES 0 .. 1000 of acts .. The DISTANCE of two trees is the least cost of all mappings.");
        BranchMender mender = Bench.with("a", "b", Bench.flat(30), Bench.flat(30).replace("(", "{").replace(")", "}"), Bench.chain(12));
        Bench.due("a tree from itself", mender.distance(2, 2), 0);
        setPrices(mender, 0, 0, 0, 0);
        Bench.due("all is free", mender.distance(2, 4), 0);
        setPrices(mender, 1000, 1000, 1000, 1000);
        Bench.due("one node of 1000", mender.distance(0, 1), 1000);
        BranchMender most = Bench.with(Bench.flat(30), "r{" + "c{},".repeat(28) + "c{}}");
        setPrices(most, 0, 0, 1000, 1000);
        Bench.due("the greatest", most.distance(0, 1), 60 * 1000);
        Bench.due("back again", most.distance(1, 0), 60 * 1000);
        setPrices(most, 0, 0, 1000, 0);
        Bench.due("only PUT costs", most.distance(0, 1), 30 * 1000);
        setPrices(most, 0, 0, 0, 1000);
        Bench.due("only TAKE costs", most.distance(0, 1), 30 * 1000);
        BranchMender dear = Bench.with("a=1", "b=2");
        setPrices(dear, 1000, 1000, 999, 1000);
        Bench.due("taking and putting is less than a pair", dear.distance(0, 1), 1999);
        setPrices(dear, 999, 1000, 1000, 1000);
        Bench.due("a pair is less", dear.distance(0, 1), 1999);
    }

    private static void mappingPairsFirst() {
        Bench.sentence("if some mapping of least cost that agrees with all that is settled pairs them, they are a pair");
        BranchMender mender = Bench.with("a", "b");
        mender.price(0, 6);
        dueMapping(mender, "0-1", "L0/6");
        mender.price(0, 7);
        dueMapping(mender, "", "T0/3 P1/3");
        setPrices(mender, 0, 0, 0, 0);
        dueMapping(mender, "0-1", "L0/0");
        setPrices(mender, 1, 0, 0, 0);
        dueMapping(mender, "", "T0/0 P1/0");
        BranchMender last = Bench.with("r(a,a,a)", "r(a,a)");
        dueMapping(last, "0-4 2-5 3-6", "T1/3");
        BranchMender more = Bench.with("r(a,a)", "r(a,a,a)");
        dueMapping(more, "0-3 1-5 2-6", "P4/3");
        BranchMender deep = Bench.with("a(a(a))", "a(a)");
        dueMapping(deep, "0-3 1-4", "T2/3");
    }

    private static void mappingLeavesXFirst() {
        Bench.sentence("else if some such one leaves x in no pair, x is in none; else y is in none");
        BranchMender either = Bench.with("r(u!,v!)", "r(v!,u!)");
        dueMapping(either, "0-3 1-5", "T2/3 P4/3");
        BranchMender onlyY = Bench.with("r(u!)", "r(u!,v!)");
        dueMapping(onlyY, "0-2 1-3", "P4/3");
        BranchMender three = Bench.with("r(u!,v!,x!)", "r(x!,v!,u!)");
        dueMapping(three, "0-4 1-7", "T2/3 T3/3 P5/3 P6/3");
        BranchMender roots = Bench.with("r(a{b})", "r(c<b>)");
        dueMapping(roots, "0-3 2-5", "T1/3 P4/3");
    }

    private static void mappingUnderAPair() {
        Bench.sentence("if one of them is under a node of a pair whose other node the other one isn't under, it is in no pair");
        BranchMender first = Bench.with("r(a(x))", "r(x,a)");
        dueMapping(first, "0-3 1-5", "T2/3 P4/3");
        BranchMender second = Bench.with("r(x,a)", "r(a(x))");
        dueMapping(second, "0-3 2-4", "T1/3 P5/3");
        BranchMender both = Bench.with("r(x,a(y))", "r(x,a(z!))");
        dueMapping(both, "0-4 1-5 2-6", "T3/3 P7/3");
        BranchMender free = Bench.with("r(a(x,y),b)", "r(a,b(x,y))");
        setPrices(free, 0, 0, 0, 0);
        dueMapping(free, "0-5 1-6 4-7", "T2/0 T3/0 P8/0 P9/0");
    }

    private static void mappingNoneLeft() {
        Bench.sentence("(When no y is left, x is in none; and so with y.)");
        dueMapping(Bench.with("r(a,b(c))", "r"), "0-4", "T1/3 T2/3 T3/3");
        dueMapping(Bench.with("r", "r(a,b(c))"), "0-1", "P2/3 P4/3 P3/3");
        dueMapping(Bench.with("r", "s(r)"), "0-2", "P1/3");
        dueMapping(Bench.with("s(r)", "r"), "1-2", "T0/3");
        dueMapping(Bench.with("r(p,q{})", "q{}"), "2-3", "T0/3 T1/3");
        dueMapping(Bench.with("q{}", "r(p,q{})"), "0-3", "P2/3 P1/3");
        BranchMender inside = Bench.with("r", "s(r)");
        inside.price(0, 0);
        dueMapping(inside, "0-1", "L0/0 P2/3");
        BranchMender around = Bench.with("s(r)", "r");
        around.price(0, 0);
        dueMapping(around, "0-2", "T1/3 L0/0");
    }

    private static void mappingOfFullTrees() {
        Bench.sentence("going from their last nodes BEHIND back");
        BranchMender longest = Bench.with("r(z!," + "a,".repeat(27) + "w!)", "r(z!,w!," + "b{},".repeat(26) + "b{})");
        Bench.due("the longest way back", longest.map(0, 1), 3);
        Bench.due("pairs", Bench.pairs(longest), "0-30 1-31 29-32");
        Bench.due("acts", longest.acts(), 2 * 27);
        BranchMender smaller = Bench.with("r(a{x!,y!},b{z!})", "r(a{x!,y!},b{z!})", "b{y!,x!}", "b{x!}");
        Bench.due("six pairs", smaller.map(0, 1), 6);
        Bench.due("then fewer", smaller.map(2, 3), 2);
        Bench.due("none of those before", Bench.pairs(smaller) + " " + Bench.acts(smaller), "12-15 14-16 T13/3");
        BranchMender none = Bench.with("a(b,c=1)", "x=2(c,d(e))", "w!");
        none.map(0, 1);
        none.map(0, 0);
        Bench.due("then none at all", none.map(0, 2) + Bench.acts(none), "0T0/3 T1/3 T2/3 P7/3");
        BranchMender inside = Bench.with("a=1{b,a=1(a)}", "a(b{b(b{})})");
        inside.price(2, 1);
        dueMapping(inside, "2-4 3-6", "T0/3 T1/3 X2/1 L3/2 P7/1 P5/1");
        Bench.due("their price", inside.distance(0, 1), 11);
        Bench.sentence("pairs nodes of the one with nodes of the other one, each at most once");
        Bench.due("one for two", distance("r(w!,w!)", "r(w!)"), 3);
        Bench.due("two for one", distance("r(w!)", "r(w!,w!)"), 3);
        Bench.due("one for 29", distance("r(w!)", "r(" + "w!,".repeat(28) + "w!)"), 28 * 3);
    }

    private static void mendingOrder() {
        Bench.sentence("TAKE AHEAD one by one; for pairs, AHEAD of the first tree, RELABEL and then RETEXT; PUT BEHIND one by one");
        BranchMender mender = Bench.with("r(a(b),c=1)", "s=2(d=3{e{},f{g{}}},c)");
        dueMapping(mender, "0-4 3-9", "T1/3 T2/3 L0/2 X0/1 X3/1 P6/3 P8/3 P7/3 P5/3");
        Bench.sentence("where they differ");
        dueMapping(Bench.with("a=1(b=2)", "a=1(b=2)"), "0-2 1-3", "");
        dueMapping(Bench.with("a=1(b=2)", "a(b)"), "0-2 1-3", "X0/1 X1/1");
        dueMapping(Bench.with("a(b)", "c(d)"), "0-2 1-3", "L0/2 L1/2");
    }

    private static void mendingRoots() {
        Bench.sentence("The root can't be taken or put by an act of its own, but a mending may have that: it is told, not done.");
        BranchMender mender = Bench.with("a(b)", "a{b}");
        dueMapping(mender, "1-3", "T0/3 P2/3");
        Bench.due("nothing is done", Bench.written(mender, 0) + Bench.written(mender, 1), "a(b)a{b}");
        Bench.due("by an act of its own", mender.take(0, 0), Bench.ROOT);
        dueMapping(Bench.with("w!", "v!"), "", "T0/3 P1/3");
    }

    private static void mapTillTheNext() {
        Bench.sentence("told by pair() and act() till the next map()");
        BranchMender mender = Bench.with("a(b)", "a(c)", "w!");
        mender.map(0, 1);
        mender.clear(0);
        Bench.relabel(mender, 1, 2, "z");
        mender.distance(1, 2);
        mender.merge(1, 1, 1, 3);
        Bench.due("pairs", Bench.pairs(mender), "0-2 1-3");
        Bench.due("acts", Bench.acts(mender), "L1/2");
        Bench.due("like", mender.like(), 100);
        mender.map(1, 2);
        Bench.due("the next one's pairs", Bench.pairs(mender), "");
        Bench.due("the next one's acts", Bench.acts(mender), "T2/3 T3/3 P4/3");
        Bench.due("the next one's like", mender.like(), 0);
    }

    private static void mapRefused() {
        Bench.sentence("Tree p. Tree q. (an act that answers a finding changes nothing but what found() tells)");
        BranchMender mender = Bench.with("a", "b");
        mender.map(2, 0);
        mender.map(0, 8);
        Bench.due("a refused map() is none", mender.like(), Bench.NONE);
        Bench.due("no acts of it", mender.acts(), 0);
        mender.map(0, 1);
        Bench.due("p below", mender.map(-1, 1), Bench.BEYOND);
        Bench.due("p empty", mender.map(2, 1), Bench.NOTHING);
        Bench.due("q above", mender.map(1, 8), Bench.BEYOND);
        Bench.due("q empty", mender.map(1, 2), Bench.NOTHING);
        Bench.due("the latest stays", Bench.pairs(mender) + Bench.acts(mender), "0-1L0/2");
    }

    private static void pairs() {
        Bench.sentence("NONE: there is no such pair. BEYOND: another what.");
        BranchMender mender = Bench.with("a(b)", "a(b)", "w!");
        Bench.due("without a map()", mender.pair(0, 0), Bench.NONE);
        mender.map(0, 2);
        Bench.due("without a pair", mender.pair(0, 0), Bench.NONE);
        mender.map(0, 1);
        int[] none = {-1, 2, 30, Bench.MIN, Bench.MAX};
        for (int i : none) {
            Bench.due("pair " + i, mender.pair(i, 0), Bench.NONE);
            Bench.due("and another what", mender.pair(i, 2), Bench.NONE);
        }
        int[] others = {-1, 2, Bench.MIN, Bench.MAX};
        for (int what : others) {
            Bench.due("what " + what, mender.pair(1, what), Bench.BEYOND);
        }
        Bench.due("the first", mender.pair(0, 0) * 10 + mender.pair(0, 1), 2);
        Bench.due("the last", mender.pair(1, 0) * 10 + mender.pair(1, 1), 13);
        BranchMender most = Bench.with(UNLIKE, UNLIKE);
        Bench.due("30 pairs", most.map(0, 1), 30);
        Bench.due("the 30th", most.pair(29, 1), 59);
        Bench.due("no 31st", most.pair(30, 0), Bench.NONE);
        Bench.sentence("in the order AHEAD of its first tree");
        BranchMender order = Bench.with("a(b(c),d)", "a(b(c),d)");
        order.map(0, 1);
        Bench.due("AHEAD", Bench.pairs(order), "0-4 1-5 2-6 3-7");
    }

    private static void acts() {
        Bench.sentence("How many acts MENDING by the latest map() has; 0 without one.");
        BranchMender mender = Bench.with("a", "b=1", "w!");
        Bench.due("without a map()", mender.acts(), 0);
        mender.map(0, 0);
        Bench.due("of a tree into itself", mender.acts(), 0);
        mender.map(0, 1);
        Bench.due("two of one pair", mender.acts(), 2);
        mender.map(0, 2);
        Bench.due("of no pair", mender.acts(), 2);
        Bench.due("no findings", mender.found(-6), 0);
    }

    private static void act() {
        Bench.sentence("NONE: there is no such act. BEYOND: another what.");
        BranchMender mender = Bench.with("a", "b=1");
        Bench.due("without a map()", mender.act(0, 0), Bench.NONE);
        mender.map(0, 0);
        Bench.due("without an act", mender.act(0, 0), Bench.NONE);
        mender.map(0, 1);
        int[] none = {-1, 2, 60, Bench.MIN, Bench.MAX};
        for (int i : none) {
            Bench.due("act " + i, mender.act(i, 0), Bench.NONE);
            Bench.due("and another what", mender.act(i, 3), Bench.NONE);
        }
        int[] others = {-1, 3, Bench.MIN, Bench.MAX};
        for (int what : others) {
            Bench.due("what " + what, mender.act(1, what), Bench.BEYOND);
        }
        Bench.sentence("1 the node's name (of PUT in the second tree, else in the first one)");
        BranchMender names = Bench.with("z", "r(a=1,b,w!)", "r(a=2,c,v!)");
        names.map(1, 2);
        Bench.due("names", Bench.acts(names), "T4/3 X2/1 L3/2 P8/3");
    }

    private static void mostActs() {
        Bench.sentence("(Each act but RELABEL and RETEXT has one node.)");
        BranchMender none = Bench.with(Bench.flat(30), "r{" + "c{},".repeat(28) + "c{}}");
        Bench.due("no pairs of 30 and 30", none.map(0, 1), 0);
        Bench.due("60 acts", none.acts(), 60);
        Bench.due("the first", none.act(0, 0) * 100 + none.act(0, 1), 300);
        Bench.due("the 30th", none.act(29, 0) * 100 + none.act(29, 1), 329);
        Bench.due("the 31st", none.act(30, 0) * 100 + none.act(30, 1), 231);
        Bench.due("the 60th", none.act(59, 0) * 100 + none.act(59, 1), 230);
        Bench.due("no 61st", none.act(60, 0), Bench.NONE);
        BranchMender all = Bench.with(Bench.flat(30), "s=1(" + "d=1,".repeat(28) + "d=1)");
        Bench.due("30 pairs", all.map(0, 1), 30);
        Bench.due("two acts of each", all.acts(), 60);
        Bench.due("the 59th", all.act(58, 0) * 100 + all.act(58, 1), 29);
        Bench.due("the 60th", all.act(59, 0) * 100 + all.act(59, 1), 129);
        Bench.due("no 61st", all.act(60, 2), Bench.NONE);
    }

    private static void pricesAsTheyWere() {
        Bench.sentence("(Prices as they were then.)");
        BranchMender mender = Bench.with("r(a=1,b)", "r(c=2)");
        setPrices(mender, 0, 40, 1000, 1000);
        mender.map(0, 1);
        setPrices(mender, 1, 2, 3, 4);
        Bench.due("behind other prices", Bench.acts(mender), "T1/1000 L2/0 X2/40");
        mender.map(0, 1);
        Bench.due("those of the next map()", Bench.acts(mender), "T1/4 L2/1 X2/2");
    }

    private static void like() {
        Bench.sentence("200 times their number by the sum of both numbers of nodes, cut. NONE: there was none.");
        BranchMender mender = Bench.with("r", "r(a)", "w!", UNLIKE, UNLIKE, "r(a,b)");
        Bench.due("there was none", mender.like(), Bench.NONE);
        mender.map(6, 0);
        Bench.due("a refused one is none", mender.like(), Bench.NONE);
        mender.map(0, 0);
        Bench.due("1 of 1 and 1", mender.like(), 100);
        mender.map(0, 1);
        Bench.due("1 of 1 and 2", mender.like(), 66);
        mender.map(1, 0);
        Bench.due("1 of 2 and 1", mender.like(), 66);
        mender.map(0, 2);
        Bench.due("none of 1 and 1 is no finding", mender.like(), 0);
        mender.map(3, 4);
        Bench.due("30 of 30 and 30", mender.like(), 100);
        mender.map(0, 3);
        Bench.due("1 of 1 and 30", mender.like(), 6);
        mender.map(5, 3);
        Bench.due("3 of 3 and 30", mender.like(), 18);
        mender.map(3, 2);
        Bench.due("none of 30 and 1", mender.like(), 0);
        Bench.due("findings", mender.found(-6), 2);
    }

    private static int sameOf(String first, String second) {
        BranchMender mender = Bench.with(first, second);
        int answer = mender.same(0, 1);
        Bench.due("back again, " + first + " and " + second, mender.same(1, 0), answer);
        return answer;
    }

    private static void dueSame(String first, String second) {
        Bench.due(first + " and " + second, sameOf(first, second), 1);
    }

    private static void dueUnlike(String first, String second) {
        Bench.due(first + " and " + second, sameOf(first, second), 0);
    }

    private static void sameFields() {
        Bench.sentence("two nodes are the same if kind, label, text are");
        String[] unlike = {"a", "b", "aa", "a=1", "a=2", "a=11", "a{}", "a<>", "a!", "a=1!"};
        for (int i = 0; i < unlike.length; i++) {
            for (int j = 0; j < unlike.length; j++) {
                Bench.due(unlike[i] + " and " + unlike[j], sameOf(unlike[i], unlike[j]), i == j ? 1 : 0);
            }
        }
        dueSame("abcdef=12345678", "abcdef=12345678");
        dueUnlike("abcdef=12345678", "abcdeg=12345678");
        dueUnlike("abcdef=12345678", "abcdef=12345679");
        dueUnlike("r(a(b(c)))", "r(a(b(d)))");
        dueUnlike("r(a,b)", "r(a)");
        dueUnlike("r(a,a)", "r(a)");
        dueUnlike("r(a(b))", "r(a,b)");
        dueSame(Bench.chain(12), Bench.chain(12));
        dueSame(UNLIKE, UNLIKE);
    }

    private static void sameOrder() {
        Bench.sentence("their children: of a BRANCH one by one in order; of a BAG or KEYED in some order");
        dueUnlike("r(a,b)", "r(b,a)");
        dueSame("r{a,b}", "r{b,a}");
        dueSame("r<a,b>", "r<b,a>");
        dueSame("r{a,a,b}", "r{a,b,a}");
        dueUnlike("r{a,a,b}", "r{a,b,b}");
        dueUnlike("r{a,a}", "r{a}");
        dueUnlike("r{}", "r{a}");
        dueUnlike("r<>", "r<a>");
        dueUnlike("r{a,b}", "r<a,b>");
        dueSame("r{a{b,c},d}", "r{d,a{c,b}}");
        dueUnlike("r{a(b,c),d}", "r{d,a(c,b)}");
        dueSame("r(a{b,c},d)", "r(a{c,b},d)");
        dueUnlike("r(a{b,c},d)", "r(d,a{b,c})");
        dueUnlike("r{a{b,c},a{d,e}}", "r{a{b,d},a{c,e}}");
        dueSame("r{a{b,c},a{d,e}}", "r{a{e,d},a{c,b}}");
        dueUnlike("r{a{b},a{b},a{c}}", "r{a{b},a{c},a{c}}");
        String bag = UNLIKE.replace('(', '{').replace(')', '}');
        dueSame(bag, "r{ad," + bag.substring(2).replace(",ad", ""));
        dueUnlike(bag, "r{ad," + bag.substring(2).replace(",ad", "").replace("ac", "ae"));
    }

    private static void sameRefused() {
        Bench.sentence("Whether trees p and q are the SAME (1, 0). Tree p. Tree q.");
        BranchMender mender = Bench.with("a");
        Bench.due("with itself", mender.same(0, 0), 1);
        Bench.due("p below", mender.same(-1, 0), Bench.BEYOND);
        Bench.due("p empty", mender.same(1, 0), Bench.NOTHING);
        Bench.due("q above", mender.same(0, 8), Bench.BEYOND);
        Bench.due("q empty", mender.same(0, 7), Bench.NOTHING);
        Bench.due("both empty", mender.same(1, 1), Bench.NOTHING);
        mender.copy(0, 7);
        Bench.due("names don't count", Bench.read(mender, 1, "a") * 10 + mender.same(1, 7), 11);
    }

    private static void dueUnlikeBranches(String text, int due) {
        Bench.due(text, Bench.with(text).unlike(0), due);
    }

    private static void unlike() {
        Bench.sentence("How many unlike branches tree p has: of its nodes, each with all under it, the SAME ones counted once.");
        dueUnlikeBranches("a", 1);
        dueUnlikeBranches("a(a)", 2);
        dueUnlikeBranches("r(a,a)", 2);
        dueUnlikeBranches("r(a,a=1,a{},a<>,a!)", 6);
        dueUnlikeBranches("r(x{a,b},x{b,a})", 4);
        dueUnlikeBranches("r(x(a,b),x(b,a))", 5);
        dueUnlikeBranches(Bench.chain(12), 12);
        dueUnlikeBranches(Bench.flat(30), 2);
        dueUnlikeBranches(UNLIKE, 30);
        BranchMender mender = Bench.with("a");
        Bench.due("empty", mender.unlike(1), Bench.NOTHING);
        Bench.due("below", mender.unlike(-1), Bench.BEYOND);
        Bench.due("above", mender.unlike(8), Bench.BEYOND);
    }

    private static void shared() {
        Bench.sentence("How many nodes of tree p have a branch that is the SAME as some branch of tree q.");
        BranchMender mender = Bench.with("a", "b", "r(a,a,b)", UNLIKE, UNLIKE, "s(x{a,b})", "x{b,a}");
        Bench.due("none", mender.shared(0, 1), 0);
        Bench.due("itself", mender.shared(0, 0), 1);
        Bench.due("each that has one", mender.shared(2, 0), 2);
        Bench.due("one of many", mender.shared(0, 2), 1);
        Bench.due("all 30", mender.shared(3, 4), 30);
        Bench.due("a bag in any order", mender.shared(5, 6), 3);
        Bench.due("and back", mender.shared(6, 5), 3);
        Bench.due("p below", mender.shared(-1, 0), Bench.BEYOND);
        Bench.due("p empty", mender.shared(7, 0), Bench.NOTHING);
        Bench.due("q above", mender.shared(0, 8), Bench.BEYOND);
        Bench.due("q empty", mender.shared(0, 7), Bench.NOTHING);
    }

    private static void comparedAgainAndAgain() {
        Bench.sentence("SAME: two nodes are the same if .. (of full trees, whatever was compared before)");
        BranchMender mender = Bench.with(UNLIKE, UNLIKE.replace("ad", "ae"), Bench.flat(30), "r{b,a}", "r{a,b}");
        for (int round = 0; round < 4; round++) {
            Bench.due("unlike of 30", mender.unlike(0), 30);
            Bench.due("unlike of 2", mender.unlike(2), 2);
            Bench.due("shared but for one and the root", mender.shared(0, 1), 28);
            Bench.due("shared, one kind of leaf", mender.shared(2, 0), 29);
            Bench.due("not the same", mender.same(0, 1), 0);
            Bench.due("the same", mender.same(3, 4), 1);
        }
        BranchMender onlySame = Bench.with(UNLIKE, UNLIKE.replace("ad", "ae"), "r{b(d),a}", "r{a,b(d)}");
        BranchMender onlyUnlike = Bench.with(UNLIKE, UNLIKE.replace("ad", "ae"));
        BranchMender onlyShared = Bench.with(UNLIKE, UNLIKE.replace("ad", "ae"));
        for (int round = 0; round < 4; round++) {
            Bench.due("not the same", onlySame.same(0, 1) + onlySame.same(1, 2), 0);
            Bench.due("the same", onlySame.same(2, 3), 1);
            Bench.due("unlike", onlyUnlike.unlike(round % 2), 30);
            Bench.due("shared", onlyShared.shared(round % 2, 1 - round % 2), 28);
        }
    }
}
