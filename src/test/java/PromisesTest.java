/** Each promise of the document by itself: ordinary inputs, the edges it names, wrong inputs. */
public final class PromisesTest {
    private PromisesTest() {
    }

    public static void main(String[] args) {
        newObject();
        feed();
        read();
        readWrong();
        readLimits();
        write();
        letter();
        copy();
        clear();
        node();
        size();
        relabel();
        retext();
        put();
        putFindings();
        take();
        move();
        moveFindings();
        price();
        distance();
        map();
        pair();
        acts();
        act();
        like();
        same();
        unlike();
        shared();
        merge();
        mergeWithoutTree();
        mergeNewNodes();
        merged();
        clash();
        found();
        findingsChangeNothing();
        Bench.end("promises");
    }

    private static void due(String call, Object got, Object want) {
        Bench.due(call, got, want);
    }

    private static void newObject() {
        BranchMender mender = new BranchMender();
        for (int p = 0; p < 8; p++) {
            due("1: size of a new place", mender.size(p), Bench.NOTHING);
        }
        due("1: empty tape", mender.feed('a', 1), 1);
        due("1: price 0", mender.price(0, 0), 2);
        due("1: price 1", mender.price(1, 0), 1);
        due("1: price 2", mender.price(2, 0), 3);
        due("1: price 3", mender.price(3, 0), 3);
        due("1: nothing written", mender.letter(0), -1);
        due("1: no acts", mender.acts(), 0);
        due("1: nothing merged", mender.merged(), 0);
        BranchMender first = Bench.with("a(b)");
        BranchMender second = Bench.with("c");
        due("1: names of each object", second.node(0, 0, 0), 0);
        due("1: objects apart", first.size(0), 2);
    }

    private static void feed() {
        BranchMender mender = new BranchMender();
        due("2: n 0", mender.feed(0, 0), Bench.BEYOND);
        due("2: n 9", mender.feed(0, 9), Bench.BEYOND);
        due("2: n least", mender.feed(0, Bench.MIN), Bench.BEYOND);
        due("2: n most", mender.feed(0, Bench.MAX), Bench.BEYOND);
        due("2: only the lowest bytes", mender.feed(0x7a7a7a7a63622861L, 3), 3);
        due("2: more", mender.feed(0x29L, 1), 4);
        due("2: read", mender.read(0), 2);
        due("2: the lowest first", Bench.written(mender, 0), "a(b)");
        for (int k = 1; k <= 50; k++) {
            due("2: eight more", mender.feed(0x6161616161616161L, 8), 8 * k);
        }
        due("2: 401", mender.feed('a', 1), Bench.FULL);
        due("2: BEYOND ahead of FULL", mender.feed('a', 0), Bench.BEYOND);
        due("2: all 400 stayed", mender.read(0), -16);
        for (int k = 1; k <= 49; k++) {
            mender.feed(0x6161616161616161L, 8);
        }
        due("2: 399", mender.feed(0x61616161616161L, 7), 399);
        due("2: 401 in two", mender.feed(0, 2), Bench.FULL);
        due("2: 400", mender.feed(0, 1), 400);
        mender.read(0);
        mender.feed(0xffL, 1);
        due("2: a high byte is no letter", mender.read(0), -10);
    }

    private static void read() {
        BranchMender mender = new BranchMender();
        due("3: one node", Bench.read(mender, 7, "a"), 1);
        due("3: tape is empty then", mender.feed('b', 1), 1);
        due("3: place below", mender.read(-1), Bench.BEYOND);
        due("3: place above", mender.read(8), Bench.BEYOND);
        due("3: least place", mender.read(Bench.MIN), Bench.BEYOND);
        due("3: tape stays", mender.feed('(', 1), 2);
        due("3: wrong", mender.read(7), -12);
        due("3: tape is empty behind a wrong one", mender.feed('c', 1), 1);
        due("3: the tree stayed", Bench.written(mender, 7), "a");
        due("3: over the old one", mender.read(7), 1);
        due("3: new", Bench.written(mender, 7), "c");
        due("3: wrong ones used no names", mender.node(7, 0, 0), 1);
        due("3: all kinds", Bench.read(mender, 0, "r=0z(abcdef=12345678,b{},k<x,y=a!>,w!,g{x,x},z(q))"), 12);
        due("3: names AHEAD", Bench.names(mender, 0), "2 3 4 5 6 7 8 9 10 11 12 13");
        due("3: kinds", mender.node(0, 2, 1) * 100 + mender.node(0, 3, 1) * 10 + mender.node(0, 6, 1), 123);
        due("3: a root may be a WHOLE", Bench.read(mender, 1, "w=9!"), 1);
        due("3: empty bag", Bench.read(mender, 1, "w{}"), 1);
        due("3: empty keyed", Bench.read(mender, 1, "w<>"), 1);
    }

    private static void readWrong() {
        String[] texts = {"", "A", "1", "=", "a=", "a=(", "a=A", "a=!", "a==", "a=b=", "a(", "a()", "a(b", "a(b,", "a(b,)",
            "a(b}", "a(b>", "a{b)", "a<b)", "a{", "a{,", "a<", "a<b", "a{b", "a{b}}", "a)", "a,b", "a!!", "a!(b)",
            "a!=b", "a(b)(c)", "a(b)=c", "a{}{}", "a b", " a", "a ", "abcdefg", "abcdef7", "a=123456789", "a=12345678a",
            "a=12345678!a", "a(b c)", "a(b=)", "a(b!,c!d)", "a,", "a<b,b>", "a<b,c,b(d)>", "a<bb,b,bb=1>", "a<b(x,x),x,b>",
            "a<b,b", "a<b,bx", "a<abcdef,abcdefg>", "a<b=1,b=2>", "a<b?,b>", "a<b,b?", "a{b,b}?", "a<k<x,x>>", "a(b,b)x"};
        int[] due = {0, 0, 0, 0, 2, 2, 2, 2, 2, 3, 2, 2, 3, 4, 4,
            3, 3, 3, 3, 2, 2, 2, 3, 3, 4, 1, 1, 2, 2,
            2, 4, 4, 3, 1, 0, 1, 6, 6, 10, 10,
            11, 3, 4, 7, 1, 4, 6, 7, 11,
            4, 6, 15, 6, 3, 4, 6, 6, 6};
        BranchMender mender = new BranchMender();
        for (int k = 0; k < texts.length; k++) {
            due("3: read of " + texts[k], Bench.read(mender, 0, texts[k]), -10 - due[k]);
        }
        due("3: no tree of all these", mender.size(0), Bench.NOTHING);
        due("3: all counted", mender.found(-9), texts.length);
        due("3: names still from 0", Bench.read(mender, 0, "a") + mender.node(0, 0, 0), 1);
    }

    private static void readLimits() {
        BranchMender mender = new BranchMender();
        due("3: 30 nodes", Bench.read(mender, 0, Bench.flat(30)), 30);
        due("3: 31 nodes", Bench.read(mender, 0, Bench.flat(31)), -10 - 60);
        due("3: 31st ahead of its wrong label", Bench.read(mender, 0, Bench.flat(30).replace(")", ",ccccccc)")), -70);
        due("3: 11 deep", Bench.read(mender, 0, Bench.chain(12)), 12);
        due("3: 12 deep", Bench.read(mender, 0, Bench.chain(13)), -34);
        due("3: an empty bag 11 deep", Bench.read(mender, 0, Bench.chain(12).replaceFirst("a\\)", "a{})")), 12);
        due("3: one under it", Bench.read(mender, 0, Bench.chain(12).replaceFirst("a\\)", "a{b})")), -34);
        StringBuilder big = new StringBuilder("r(");
        for (int k = 0; k < 22; k++) {
            big.append(k == 0 ? "" : ",").append("abcdef=12345678{}");
        }
        due("3: a full tape", big.append(")").length(), 398);
        due("3: read whole", Bench.read(mender, 1, big.toString()), 23);
        due("3: and written whole", Bench.written(mender, 1), big.toString());
    }

    private static void write() {
        BranchMender mender = Bench.with("a(b=1,c{d,e<>},f!,g=2(h!),i{},k<x,y=3>)", "a!", "a=0{}");
        due("4: all kinds", Bench.written(mender, 0), "a(b=1,c{d,e<>},f!,g=2(h!),i{},k<x,y=3>)");
        due("4: a WHOLE", Bench.written(mender, 1), "a!");
        due("4: an empty bag with a text", Bench.written(mender, 2), "a=0{}");
        due("4: BEYOND", mender.write(8), Bench.BEYOND);
        due("4: below", mender.write(-1), Bench.BEYOND);
        due("4: NOTHING", mender.write(3), Bench.NOTHING);
        mender.take(0, 7);
        due("4: a branch without children is bare", Bench.written(mender, 0), "a(b=1,c{d,e<>},f!,g=2,i{},k<x,y=3>)");
        mender.take(0, 10);
        mender.take(0, 11);
        mender.retext(0, 6);
        due("4: a keyed isn't, nor is = without a text", Bench.written(mender, 0), "a(b=1,c{d,e<>},f!,g,i{},k<>)");
        BranchMender deep = Bench.with("a(b(c(d{e<f>}),g))");
        due("4: deepest", Bench.written(Bench.with(Bench.chain(12)), 0), Bench.chain(12));
        due("4: closing many", Bench.written(deep, 0), "a(b(c(d{e<f>}),g))");
        due("4: the longest tree", longest(), 30 * 15 + 30 * 2 + 28);
    }

    private static int longest() {
        BranchMender mender = Bench.with("abcdef{" + "abcdef{},".repeat(28) + "abcdef{}}");
        for (int name = 0; name < 30; name++) {
            mender.feed(0x3837363534333231L, 8);
            mender.retext(0, name);
        }
        int length = mender.write(0);
        due("4: its last byte", mender.letter(length - 1), (int) '}');
        due("4: its last byte but two", mender.letter(length - 3), (int) '{');
        return length;
    }

    private static void letter() {
        BranchMender mender = Bench.with("ab", "c");
        due("5: nothing written", mender.letter(0), -1);
        mender.write(0);
        due("5: first", mender.letter(0), (int) 'a');
        due("5: last", mender.letter(1), (int) 'b');
        due("5: behind", mender.letter(2), -1);
        due("5: below", mender.letter(-1), -1);
        due("5: least", mender.letter(Bench.MIN), -1);
        due("5: most", mender.letter(Bench.MAX), -1);
        mender.write(5);
        due("5: a finding writes nothing", mender.letter(1), (int) 'b');
        mender.clear(0);
        due("5: it stays", mender.letter(0), (int) 'a');
        mender.write(1);
        due("5: written last", mender.letter(0), (int) 'c');
        due("5: shorter now", mender.letter(1), -1);
        due("5: no finding of letter()", mender.found(-1), 0);
    }

    private static void copy() {
        BranchMender mender = Bench.with("a(b,c)", "z");
        due("6: copy", mender.copy(0, 1), 3);
        due("6: names", Bench.names(mender, 1), "0 1 2");
        mender.take(1, 1);
        due("6: apart", Bench.written(mender, 0) + Bench.written(mender, 1), "a(b,c)a(c)");
        due("6: on itself", mender.copy(0, 0), 3);
        due("6: itself", Bench.written(mender, 0), "a(b,c)");
        due("6: Tree p", mender.copy(8, 0), Bench.BEYOND);
        due("6: NOTHING ahead of q", mender.copy(2, 8), Bench.NOTHING);
        due("6: q", mender.copy(0, 8), Bench.BEYOND);
        due("6: q below", mender.copy(0, -1), Bench.BEYOND);
        mender.feed('n', 1);
        due("6: no names used", mender.put(0, 0, 0, 0, 0), 4);
    }

    private static void clear() {
        BranchMender mender = Bench.with("a(b)");
        due("7: there was one", mender.clear(0), 1);
        due("7: gone", mender.size(0), Bench.NOTHING);
        due("7: none", mender.clear(0), 0);
        due("7: above", mender.clear(8), Bench.BEYOND);
        due("7: below", mender.clear(-1), Bench.BEYOND);
        Bench.read(mender, 0, "a");
        due("7: names are not used again", mender.node(0, 0, 0), 2);
    }

    private static void node() {
        BranchMender mender = Bench.with("z", "root(b=12(c!,d{e,f}),k<x=123>)");
        int[][] due = {
            {1, 0, 2, 0, -8, 8, 7, 4, 0},
            {2, 0, 2, 1, 1, 5, 4, 1, 2},
            {3, 3, 0, 2, 2, 1, 0, 1, 0},
            {4, 1, 2, 2, 2, 3, 3, 1, 0},
            {5, 0, 0, 3, 4, 1, 1, 1, 0},
            {6, 0, 0, 3, 4, 1, 2, 1, 0},
            {7, 2, 1, 1, 1, 2, 6, 1, 0},
            {8, 0, 0, 2, 7, 1, 5, 1, 3}};
        for (int i = 0; i < due.length; i++) {
            for (int what = 0; what < 9; what++) {
                due("8: node " + i + ", " + what, mender.node(1, i, what), due[i][what]);
            }
        }
        due("8: the root's parent is no finding", mender.found(-1), 0);
        due("8: Tree p", mender.node(-1, 0, 0), Bench.BEYOND);
        due("8: NOTHING", mender.node(2, 99, 99), Bench.NOTHING);
        due("8: no such node", mender.node(1, 8, 0), Bench.BEYOND);
        due("8: below", mender.node(1, -1, 0), Bench.BEYOND);
        due("8: another what", mender.node(1, 0, 9), Bench.BEYOND);
        due("8: what below", mender.node(1, 0, -1), Bench.BEYOND);
        due("8: extremes", mender.node(1, Bench.MAX, Bench.MIN), Bench.BEYOND);
    }

    private static void size() {
        BranchMender mender = Bench.with("a(b,c)", Bench.flat(30));
        due("9: three", mender.size(0), 3);
        due("9: thirty", mender.size(1), 30);
        due("9: none", mender.size(2), Bench.NOTHING);
        due("9: above", mender.size(8), Bench.BEYOND);
        due("9: below", mender.size(-1), Bench.BEYOND);
    }

    private static void relabel() {
        BranchMender mender = Bench.with("r<a,b=1(x,y),c!>");
        due("10: root", Bench.relabel(mender, 0, 0, "abcdef"), 6);
        due("10: tape is empty", mender.feed('q', 1), 1);
        due("10: a WHOLE", mender.relabel(0, 5), 1);
        due("10: as told", Bench.written(mender, 0), "abcdef<a,b=1(x,y),q!>");
        due("10: KEY", Bench.relabel(mender, 0, 1, "b"), Bench.KEY);
        due("10: tape is empty behind KEY", mender.feed('a', 1), 1);
        due("10: its own label", mender.relabel(0, 1), 1);
        due("10: twins in a branch", Bench.relabel(mender, 0, 3, "y"), 1);
        due("10: like one further down", Bench.relabel(mender, 0, 1, "y"), 1);
        due("10: no label", mender.relabel(0, 1), Bench.KIND);
        due("10: seven letters", Bench.relabel(mender, 0, 1, "abcdefg"), Bench.KIND);
        due("10: tape is empty behind KIND", mender.feed('A', 1), 1);
        due("10: capital", mender.relabel(0, 1), Bench.KIND);
        due("10: figure", Bench.relabel(mender, 0, 1, "a1"), Bench.KIND);
        due("10: zero byte", Bench.relabel(mender, 0, 1, "a\0"), Bench.KIND);
        due("10: KIND ahead of KEY", Bench.relabel(mender, 0, 1, "b "), Bench.KIND);
        Bench.feed(mender, "z");
        due("10: Tree p", mender.relabel(8, 0), Bench.BEYOND);
        due("10: NOTHING", mender.relabel(1, 0), Bench.NOTHING);
        due("10: NONE", mender.relabel(0, 6), Bench.NONE);
        due("10: NONE below", mender.relabel(0, -1), Bench.NONE);
        due("10: tape stays", mender.feed('z', 1), 2);
        due("10: zz", mender.relabel(0, 2), 2);
        due("10: last", Bench.written(mender, 0), "abcdef<y,zz=1(y,y),q!>");
    }

    private static void retext() {
        BranchMender mender = Bench.with("r<a=1,b=1!>");
        due("11: eight", Bench.retext(mender, 0, 0, "a1b2c3d4"), 8);
        due("11: tape is empty", mender.feed('0', 1), 1);
        due("11: a WHOLE", mender.retext(0, 2), 1);
        due("11: none", mender.retext(0, 1), 0);
        due("11: as told", Bench.written(mender, 0), "r=a1b2c3d4<a,b=0!>");
        due("11: nine", Bench.retext(mender, 0, 1, "123456789"), Bench.KIND);
        due("11: tape is empty behind KIND", mender.feed('A', 1), 1);
        due("11: capital", mender.retext(0, 1), Bench.KIND);
        due("11: a sign", Bench.retext(mender, 0, 1, "a="), Bench.KIND);
        due("11: a zero byte", Bench.retext(mender, 0, 1, "\0"), Bench.KIND);
        Bench.feed(mender, "9");
        due("11: Tree p", mender.retext(-1, 0), Bench.BEYOND);
        due("11: NOTHING", mender.retext(7, 0), Bench.NOTHING);
        due("11: NONE", mender.retext(0, 3), Bench.NONE);
        due("11: tape stays", mender.feed('z', 1), 2);
        due("11: two", mender.retext(0, 0), 2);
        due("11: last", Bench.written(mender, 0), "r=9z<a,b=0!>");
    }

    private static void put() {
        BranchMender mender = Bench.with("r(a(x),b,c)");
        due("12: over two", Bench.put(mender, "m", 0, 1, 1, 2), 5);
        due("12: as told", Bench.written(mender, 0), "r(a(x),m{b,c})");
        due("12: tape is empty", mender.feed('k', 1), 1);
        due("12: over the first", mender.put(0, 0, 2, 0, 1), 6);
        due("12: as told", Bench.written(mender, 0), "r(k<a(x)>,m{b,c})");
        due("12: at the end", Bench.put(mender, "e", 0, 0, 2, 0), 7);
        due("12: between", Bench.put(mender, "d", 0, 0, 1, 0), 8);
        due("12: under a leaf", Bench.put(mender, "l", 2, 0, 0, 0), 9);
        due("12: over all", Bench.put(mender, "all", 0, 2, 0, 4), 10);
        due("12: as told", Bench.written(mender, 0), "r(all<k<a(x(l))>,d,m{b,c},e>)");
        due("12: names", Bench.names(mender, 0), "0 10 6 1 2 9 8 5 3 4 7");
    }

    private static void putFindings() {
        BranchMender mender = Bench.with("r<a(x,x,y),w!,c>");
        due("12: kind 3", Bench.put(mender, "m", 0, 3, 0, 0), Bench.KIND);
        due("12: tape is empty", mender.feed('m', 1), 1);
        due("12: kind -1", mender.put(0, 0, -1, 0, 0), Bench.KIND);
        due("12: under a WHOLE", Bench.put(mender, "m", 5, 0, 0, 0), Bench.KIND);
        due("12: no label", mender.put(0, 0, 0, 0, 0), Bench.KIND);
        due("12: KIND ahead of BEYOND", mender.put(0, 0, 0, -1, 0), Bench.KIND);
        due("12: from below", Bench.put(mender, "m", 0, 0, -1, 0), Bench.BEYOND);
        due("12: tape is empty behind BEYOND", mender.feed('m', 1), 1);
        due("12: n below", mender.put(0, 0, 0, 0, -1), Bench.BEYOND);
        due("12: too many", Bench.put(mender, "m", 0, 0, 1, 3), Bench.BEYOND);
        due("12: from above", Bench.put(mender, "m", 0, 0, 4, 0), Bench.BEYOND);
        due("12: sum wraps", Bench.put(mender, "m", 0, 0, Bench.MAX, Bench.MAX), Bench.BEYOND);
        due("12: n most", Bench.put(mender, "m", 0, 0, 1, Bench.MAX), Bench.BEYOND);
        due("12: KEY of the parent", Bench.put(mender, "c", 0, 0, 0, 2), Bench.KEY);
        due("12: tape is empty behind KEY", mender.feed('c', 1), 1);
        due("12: not of those it takes", mender.put(0, 0, 0, 1, 2), 7);
        due("12: KEY of the new one", Bench.put(mender, "k", 1, 2, 0, 2), Bench.KEY);
        due("12: no KEY of a bag", Bench.put(mender, "k", 1, 1, 0, 2), 8);
        due("12: as told", Bench.written(mender, 0), "r<a(k{x,x},y),c(w!,c)>");
        Bench.feed(mender, "p");
        due("12: Tree p", mender.put(8, 0, 9, 9, 9), Bench.BEYOND);
        due("12: NOTHING", mender.put(1, 0, 9, 9, 9), Bench.NOTHING);
        due("12: NONE", mender.put(0, 99, 9, 9, 9), Bench.NONE);
        due("12: tape stays", mender.feed('p', 1), 2);
        putFull();
    }

    private static void putFull() {
        BranchMender full = Bench.with(Bench.flat(30));
        due("12: BEYOND ahead of FULL", Bench.put(full, "m", 0, 0, 0, 30), Bench.BEYOND);
        due("12: 30 nodes", Bench.put(full, "m", 0, 0, 0, 29), Bench.FULL);
        due("12: tape is empty behind FULL", full.feed('m', 1), 1);
        full.take(0, 29);
        due("12: 29 nodes", full.put(0, 0, 0, 0, 28), 30);
        BranchMender deep = Bench.with(Bench.chain(12));
        due("12: itself too deep", Bench.put(deep, "m", 11, 0, 0, 0), Bench.FULL);
        due("12: those under it too deep", Bench.put(deep, "m", 0, 0, 0, 1), Bench.FULL);
        due("12: beside", Bench.put(deep, "m", 10, 0, 0, 0), 12);
        BranchMender both = Bench.with("r<b(" + Bench.chain(10) + "),c>");
        due("12: FULL ahead of KEY", Bench.put(both, "c", 0, 0, 0, 1), Bench.FULL);
    }

    private static void take() {
        BranchMender mender = Bench.with("r(a(x,y),b{},w!)");
        due("13: two come", mender.take(0, 1), 2);
        due("13: as told", Bench.written(mender, 0), "r(x,y,b{},w!)");
        due("13: a bag", mender.take(0, 4), 0);
        due("13: a WHOLE", mender.take(0, 5), 0);
        due("13: as told", Bench.written(mender, 0), "r(x,y)");
        due("13: names", Bench.names(mender, 0), "0 2 3");
        due("13: gone", mender.take(0, 1), Bench.NONE);
        due("13: root", mender.take(0, 0), Bench.ROOT);
        due("13: Tree p", mender.take(8, 0), Bench.BEYOND);
        due("13: NOTHING", mender.take(1, 0), Bench.NOTHING);
        BranchMender keyed = Bench.with("r<a(x,y),b(z,z),x,c(d(q(q)))>");
        due("13: KEY with a sibling", keyed.take(0, 1), Bench.KEY);
        due("13: KEY among themselves", keyed.take(0, 4), Bench.KEY);
        due("13: nothing changed", Bench.written(keyed, 0), "r<a(x,y),b(z,z),x,c(d(q(q)))>");
        due("13: no KEY further down", keyed.take(0, 9), 1);
        due("13: x goes", keyed.take(0, 7), 0);
        due("13: then a may", keyed.take(0, 1), 2);
        due("13: as told", Bench.written(keyed, 0), "r<x,y,b(z,z),c(q(q))>");
        keyed.feed('t', 1);
        keyed.take(0, 8);
        due("13: tape stays", keyed.feed('t', 1), 2);
        BranchMender own = Bench.with("r<a(a)>");
        due("13: its own label is free", own.take(0, 1), 1);
        due("13: as told", Bench.written(own, 0) + Bench.names(own, 0), "r<a>0 2");
    }

    private static void move() {
        BranchMender mender = Bench.with("r(a(x,y),b{c},d)");
        due("14: down", mender.move(0, 1, 4, 1), 3);
        due("14: as told", Bench.written(mender, 0), "r(b{c,a(x,y)},d)");
        due("14: up", mender.move(0, 2, 0, 2), 1);
        due("14: as told", Bench.written(mender, 0), "r(b{c,a(y)},d,x)");
        due("14: to the front", mender.move(0, 6, 4, 0), 1);
        due("14: as told", Bench.written(mender, 0), "r(b{d,c,a(y)},x)");
        due("14: within one parent", mender.move(0, 6, 4, 2), 1);
        due("14: as told", Bench.written(mender, 0), "r(b{c,a(y),d},x)");
        due("14: counted when it is gone", mender.move(0, 6, 4, 3), Bench.BEYOND);
        due("14: to where it was", mender.move(0, 1, 4, 1), 2);
        due("14: as told", Bench.written(mender, 0), "r(b{c,a(y),d},x)");
        due("14: names", Bench.names(mender, 0), "0 4 5 1 3 6 2");
        mender.feed('t', 1);
        due("14: a later parent", mender.move(0, 4, 2, 0), 5);
        due("14: as told", Bench.written(mender, 0), "r(x(b{c,a(y),d}))");
        due("14: tape stays", mender.feed('t', 1), 2);
        due("14: depth", mender.node(0, 5, 3), 4);
    }

    private static void moveFindings() {
        BranchMender mender = Bench.with("r<a(x,y),w!,y,z(" + Bench.chain(9) + "),v>");
        due("14: Tree p", mender.move(8, 0, 0, 0), Bench.BEYOND);
        due("14: NOTHING", mender.move(1, 0, 0, 0), Bench.NOTHING);
        due("14: NONE", mender.move(0, 99, 0, 0), Bench.NONE);
        due("14: root", mender.move(0, 0, 99, -1), Bench.ROOT);
        due("14: NONE of the parent", mender.move(0, 1, 99, -1), Bench.NONE);
        due("14: a WHOLE", mender.move(0, 1, 4, -1), Bench.KIND);
        due("14: a WHOLE under itself", mender.move(0, 4, 4, 0), Bench.KIND);
        due("14: under itself", mender.move(0, 1, 1, -1), Bench.ROOT);
        due("14: under its child", mender.move(0, 1, 2, -1), Bench.ROOT);
        due("14: from below", mender.move(0, 2, 0, -1), Bench.BEYOND);
        due("14: from above", mender.move(0, 2, 0, 6), Bench.BEYOND);
        due("14: from most", mender.move(0, 2, 0, Bench.MAX), Bench.BEYOND);
        due("14: one deeper than deepest", mender.move(0, 6, 2, 0), Bench.FULL);
        due("14: as deep as can be", mender.move(0, 6, 1, 0), 10);
        due("14: as told", mender.node(0, 11, 3), 11);
        BranchMender deep = Bench.with("r<a(b(c)),y," + Bench.chain(10).replaceFirst("a", "z") + ">");
        due("14: 12 deep", deep.move(0, 5, 3, 0), Bench.FULL);
        due("14: nothing changed", Bench.written(deep, 0), "r<a(b(c)),y," + Bench.chain(10).replaceFirst("a", "z") + ">");
        due("14: KEY", mender.move(0, 3, 0, 0), Bench.KEY);
        due("14: within a KEYED", mender.move(0, 5, 0, 0), 1);
        BranchMender last = Bench.with("r(b(a),k<a>)");
        due("14: KEY at the end", last.move(0, 2, 3, 1), Bench.KEY);
        BranchMender both = Bench.with("r(a(b(k<z>))," + Bench.chain(10).replaceFirst("a", "z") + ")");
        due("14: FULL ahead of KEY", both.move(0, 5, 3, 0), Bench.FULL);
    }

    private static void price() {
        BranchMender mender = Bench.with("a=1(b)", "c=2");
        due("15: what it was", mender.price(0, 1000), 2);
        due("15: what it is", mender.price(0, 0), 1000);
        due("15: act above", mender.price(4, 0), Bench.BEYOND);
        due("15: act below", mender.price(-1, 0), Bench.BEYOND);
        due("15: v above", mender.price(1, 1001), Bench.BEYOND);
        due("15: v below", mender.price(1, -1), Bench.BEYOND);
        due("15: unchanged", mender.price(1, 10), 1);
        due("15: TAKE", mender.price(3, 100), 3);
        due("15: used", mender.distance(0, 1), 110);
        due("15: PUT", mender.price(2, 500), 3);
        due("15: used", mender.distance(1, 0), 510);
        mender.price(0, 7);
        due("15: used", mender.distance(1, 0), 517);
    }

    private static void distance() {
        BranchMender mender = Bench.with("a(b,c)", "a(b,c)", "a(x(b,c))", "a(c,b)", "a{b,c}", "w!", "w=1!", "a=1(b=2,d)");
        due("16: itself", mender.distance(0, 0), 0);
        due("16: alike", mender.distance(0, 1), 0);
        due("16: put", mender.distance(0, 2), 3);
        due("16: take", mender.distance(2, 0), 3);
        due("16: order", mender.distance(0, 3), 4);
        due("16: kinds", mender.distance(0, 4), 6);
        due("16: WHOLE alike", mender.distance(5, 5), 0);
        due("16: WHOLE texts", mender.distance(5, 6), 6);
        due("16: texts and labels", mender.distance(0, 7), 4);
        due("16: Tree p", mender.distance(8, -1), Bench.BEYOND);
        mender.clear(3);
        due("16: NOTHING", mender.distance(3, 8), Bench.NOTHING);
        due("16: Tree q", mender.distance(0, 8), Bench.BEYOND);
        due("16: q NOTHING", mender.distance(0, 3), Bench.NOTHING);
        BranchMender big = Bench.with(Bench.flat(30), Bench.flat(30).replace("r(", "r{").replace(")", "}"), Bench.chain(12));
        due("16: all but the root", big.distance(0, 1), 6);
        due("16: flat to chain", big.distance(0, 2), 2 + 2 + 28 * 3 + 10 * 3);
        big.price(2, 1000);
        big.price(3, 1000);
        big.price(0, 1000);
        due("16: dearest", big.distance(1, 2), 29 * 1000 + 11 * 1000 + 1000);
    }

    private static void map() {
        BranchMender mender = Bench.with("a(b,b,b)", "a(b)", "a(b,b)");
        due("17: the last ones first", mender.map(0, 1), 2);
        due("17: pairs", Bench.pairs(mender), "0-4 3-5");
        due("17: two", mender.map(0, 2), 3);
        due("17: pairs", Bench.pairs(mender), "0-6 2-7 3-8");
        due("17: back", mender.map(2, 0), 3);
        due("17: pairs", Bench.pairs(mender), "6-0 7-2 8-3");
        mender.clear(0);
        due("17: NOTHING", mender.map(0, 8), Bench.NOTHING);
        due("17: q", mender.map(1, 8), Bench.BEYOND);
        due("17: a finding keeps the latest", Bench.pairs(mender), "6-0 7-2 8-3");
        mapTies();
    }

    private static void mapTies() {
        BranchMender free = Bench.with("a(b(c),d)", "x(y,z)");
        for (int act = 0; act < 4; act++) {
            free.price(act, 0);
        }
        free.map(0, 1);
        due("17: all free, pairs first", Bench.pairs(free), "0-4 1-5 3-6");
        BranchMender tie = Bench.with("a(b)", "b(a)");
        tie.price(0, 3);
        tie.map(0, 1);
        due("17: a pair ahead of a take", Bench.pairs(tie), "0-2 1-3");
        BranchMender order = Bench.with("r(a,b)", "r(b,a)");
        order.price(0, 1000);
        order.map(0, 1);
        due("17: a take ahead of a put", Bench.pairs(order), "0-3 1-5");
        BranchMender wholes = Bench.with("r(a!,b!)", "r(b!,a!)");
        wholes.map(0, 1);
        due("17: WHOLE ones only alike", Bench.pairs(wholes), "0-3 1-5");
        BranchMender nested = Bench.with("r(a(x,y(u,v)),b(z))", "r(b(y(v)),a(x,y(v)),b(w,z))");
        nested.map(0, 1);
        due("17: branches under branches", Bench.pairs(nested), "0-8 1-12 2-13 3-14 5-15 6-16 7-18");
    }

    private static void pair() {
        BranchMender mender = Bench.with("a(b,c)", "a(b,c)");
        due("18: without map()", mender.pair(0, 9), Bench.NONE);
        mender.map(0, 1);
        due("18: first", mender.pair(1, 0), 1);
        due("18: second", mender.pair(1, 1), 4);
        due("18: above", mender.pair(3, 0), Bench.NONE);
        due("18: below", mender.pair(-1, 0), Bench.NONE);
        due("18: NONE ahead of BEYOND", mender.pair(3, 2), Bench.NONE);
        due("18: another what", mender.pair(2, 2), Bench.BEYOND);
        due("18: what below", mender.pair(2, -1), Bench.BEYOND);
        mender.take(0, 1);
        mender.clear(1);
        mender.distance(0, 0);
        due("18: till the next map()", Bench.pairs(mender), "0-3 1-4 2-5");
    }

    private static void acts() {
        BranchMender mender = Bench.with("a(b,c=1)", "x=2(c,d(e))", "w!");
        due("19: without map()", mender.acts(), 0);
        mender.map(0, 1);
        due("19: how many", mender.acts(), Bench.acts(mender).split(" ").length);
        String acts = Bench.acts(mender);
        mender.price(3, 9);
        mender.price(0, 9);
        due("19: prices as they were", Bench.acts(mender), acts);
        mender.map(0, 0);
        due("19: none to itself", mender.acts(), 0);
        mender.map(0, 2);
        due("19: roots, too", Bench.acts(mender), "T0/9 T1/9 T2/9 P7/3");
    }

    private static void act() {
        BranchMender mender = Bench.with("a(p{q},b=1,c,d)", "x(k<l>,b=2,e(f,g),d)");
        due("20: without map()", mender.act(0, 9), Bench.NONE);
        mender.price(0, 5);
        due("20: map", mender.map(0, 1), 5);
        due("20: pairs", Bench.pairs(mender), "0-6 2-8 3-9 4-10 5-13");
        due("20: the order", Bench.acts(mender), "T1/3 L0/5 L2/5 X3/1 L4/5 P7/3 P11/3 P12/3");
        due("20: above", mender.act(mender.acts(), 0), Bench.NONE);
        due("20: below", mender.act(-1, 0), Bench.NONE);
        due("20: NONE ahead of BEYOND", mender.act(Bench.MAX, 3), Bench.NONE);
        due("20: another what", mender.act(0, 3), Bench.BEYOND);
        due("20: what below", mender.act(0, -1), Bench.BEYOND);
        BranchMender both = Bench.with("r(a(b),c=1)", "r(a=1,z=2(y(x)))");
        both.map(0, 1);
        due("20: RELABEL, then RETEXT; PUT BEHIND", Bench.acts(both), "T2/3 X1/1 L3/2 X3/1 P8/3 P7/3");
    }

    private static void like() {
        BranchMender mender = Bench.with("a(b,c)", "a(b)", "w!");
        due("21: without map()", mender.like(), Bench.NONE);
        mender.map(0, 1);
        due("21: cut", mender.like(), 80);
        mender.map(0, 2);
        due("21: none alike", mender.like(), 0);
        mender.map(0, 0);
        due("21: all", mender.like(), 100);
        mender.take(0, 1);
        due("21: as it was then", mender.like(), 100);
        BranchMender cut = Bench.with("a(b,c!)", "a(b,d!,e!,f!)");
        cut.map(0, 1);
        due("21: 400 by 8", cut.like(), 50);
        cut.map(1, 0);
        cut.take(0, 2);
        cut.map(0, 1);
        due("21: 400 by 7", cut.like(), 57);
    }

    private static void same() {
        String[] texts = {"r(a{x,y,x},k<p=1,q(u,v)>)", "r(a{y,x,x},k<q(u,v),p=1>)", "r(a{y,x,x},k<q(v,u),p=1>)",
            "r(a{y,y,x},k<q(u,v),p=1>)", "r(k<q(u,v),p=1>,a{y,x,x})", "r(a{y,x,x},k{q(u,v),p=1})", "r(a{y,x},k<q(u,v),p=1>)",
            "r(a{y,x,x},k<q(u,v),p=2>)"};
        BranchMender mender = Bench.with(texts);
        due("22: itself", mender.same(0, 0), 1);
        due("22: any order", mender.same(0, 1), 1);
        for (int q = 2; q < 8; q++) {
            due("22: unlike " + q, mender.same(1, q) + mender.same(q, 1), 0);
        }
        BranchMender bags = Bench.with("r{a{b,c},a{c,d}}", "r{a{d,c},a{c,b}}", "r{a{b,d},a{c,c}}", "r", "r!", "r=1", "s", "r{}");
        due("22: bags in bags", bags.same(0, 1), 1);
        due("22: other bags in bags", bags.same(0, 2), 0);
        for (int q = 4; q < 8; q++) {
            due("22: kind, text, label " + q, bags.same(3, q), 0);
        }
        for (int q = 0; q < 24; q++) {
            due("22: again and again", bags.same(0, q % 3), q % 3 == 2 ? 0 : 1);
        }
        due("22: Tree p", bags.same(8, 8), Bench.BEYOND);
        due("22: Tree q", bags.same(0, -1), Bench.BEYOND);
        bags.clear(1);
        due("22: NOTHING", bags.same(1, 8), Bench.NOTHING);
        due("22: q NOTHING", bags.same(0, 1), Bench.NOTHING);
    }

    private static void unlike() {
        BranchMender mender = Bench.with("r(a,a,a)", "r{a{b,c},a{c,b},a(b,c),a(c,b)}", "a(a(a))", Bench.flat(30));
        due("23: twins once", mender.unlike(0), 2);
        due("23: bags in any order", mender.unlike(1), 6);
        due("23: chain", mender.unlike(2), 3);
        due("23: flat", mender.unlike(3), 2);
        due("23: NOTHING", mender.unlike(4), Bench.NOTHING);
        due("23: BEYOND", mender.unlike(8), Bench.BEYOND);
    }

    private static void shared() {
        BranchMender mender = Bench.with("r{a{b,c},a{c,b},d}", "s(a{c,b})", Bench.flat(30), Bench.flat(30));
        due("24: of p", mender.shared(0, 1), 6);
        due("24: of q", mender.shared(1, 0), 3);
        due("24: itself", mender.shared(2, 3), 30);
        due("24: only leaves", mender.shared(1, 2), 1);
        due("24: Tree p", mender.shared(-1, 9), Bench.BEYOND);
        due("24: NOTHING", mender.shared(4, 9), Bench.NOTHING);
        due("24: Tree q", mender.shared(0, 9), Bench.BEYOND);
        due("24: q NOTHING", mender.shared(0, 4), Bench.NOTHING);
    }

    private static void merge() {
        BranchMender mender = Bench.threefold("r(a=1,b(c,d),e)");
        Bench.relabel(mender, 1, 1, "x");
        Bench.retext(mender, 2, 1, "2");
        mender.take(1, 2);
        Bench.relabel(mender, 2, 3, "y");
        BranchMender kinds = Bench.threefold("r(w!,b{x},k<y,z!>)");
        due("25: all kinds", kinds.merge(0, 1, 2, 3), 0);
        due("25: as told", Bench.written(kinds, 3), "r(w!,b{x},k<y,z!>)");
        due("25: both hands", mender.merge(0, 1, 2, 3), 0);
        due("25: as told", Bench.written(mender, 3), "r(x=2,y,d,e)");
        due("25: names", Bench.names(mender, 3), "0 1 3 4 5");
        Bench.relabel(mender, 2, 1, "x");
        due("25: both alike", mender.merge(0, 1, 2, 0), 0);
        due("25: over the origin", Bench.written(mender, 0), "r(x=2,y,d,e)");
        BranchMender clash = Bench.threefold("r(a=1,b,c)");
        Bench.relabel(clash, 1, 1, "x");
        Bench.relabel(clash, 2, 1, "y");
        Bench.retext(clash, 1, 1, "2");
        Bench.retext(clash, 2, 1, "");
        clash.move(1, 3, 0, 0);
        clash.move(2, 1, 0, 2);
        Bench.relabel(clash, 1, 3, "l");
        due("25: clashes", clash.merge(0, 1, 2, 1), 3);
        due("25: what", Bench.clashes(clash), "0:3 1:1 1:2");
        due("25: O's stays", Bench.written(clash, 1), "r(a=1,b,l)");
        due("25: Tree o", clash.merge(8, 8, 8, 8), Bench.BEYOND);
        due("25: o NOTHING", clash.merge(5, 8, 8, 8), Bench.NOTHING);
        due("25: Tree l", clash.merge(0, 8, 5, 8), Bench.BEYOND);
        due("25: l NOTHING", clash.merge(0, 5, 8, 8), Bench.NOTHING);
        due("25: Tree r", clash.merge(0, 0, -1, 8), Bench.BEYOND);
        due("25: r NOTHING", clash.merge(0, 0, 5, 8), Bench.NOTHING);
        due("25: to", clash.merge(0, 0, 0, 8), Bench.BEYOND);
        due("25: to below", clash.merge(0, 0, 0, -1), Bench.BEYOND);
        due("25: a finding keeps the latest", Bench.clashes(clash) + clash.merged(), "0:3 1:1 1:24");
    }

    private static void mergeWithoutTree() {
        BranchMender roots = Bench.with("r(a)", "r(a)");
        roots.copy(0, 2);
        Bench.relabel(roots, 2, 1, "x");
        Bench.relabel(roots, 0, 1, "y");
        due("25: roots", roots.merge(0, 1, 2, 3), 1);
        due("25: the only clash", Bench.clashes(roots), "-1:4");
        due("25: no tree", roots.size(3), Bench.NOTHING);
        due("25: roots of R", roots.merge(0, 2, 1, 3), 1);
        due("25: roots of O", roots.merge(1, 0, 2, 3), 1);

        BranchMender twice = Bench.threefold("r(a,b,c)");
        twice.move(1, 3, 1, 0);
        twice.move(2, 3, 2, 0);
        Bench.read(twice, 3, "keep");
        due("25: come to twice", twice.merge(0, 1, 2, 3), 1);
        due("25: all lists", Bench.clashes(twice), "-1:5");
        due("25: to is as it was", Bench.written(twice, 3), "keep");
        Bench.relabel(twice, 1, 1, "x");
        Bench.relabel(twice, 2, 1, "y");
        due("25: ahead of others", twice.merge(0, 1, 2, 3), 2);
        due("25: the others", Bench.clashes(twice), "-1:5 1:1");

        BranchMender onlyO = Bench.threefold("r(a,b,c)");
        onlyO.take(1, 1);
        onlyO.take(2, 1);
        onlyO.take(1, 2);
        onlyO.take(2, 3);
        due("25: one that only O has", onlyO.merge(0, 1, 2, 3), 2);
        due("25: what", Bench.clashes(onlyO), "-1:5 0:3");

        BranchMender keyed = Bench.threefold("r<a,b>");
        Bench.relabel(keyed, 1, 1, "x");
        Bench.relabel(keyed, 2, 2, "x");
        due("25: KEYED twins", keyed.merge(0, 1, 2, 3), 1);
        due("25: what", Bench.clashes(keyed) + keyed.merged(), "-1:50");
        mergeTooBig();
    }

    private static void mergeTooBig() {
        BranchMender many = Bench.threefold("r(a(" + "x,".repeat(25) + "x),b)");
        Bench.feed(many, "p");
        many.put(1, 1, 0, 0, 0);
        due("25: 30 nodes", many.merge(0, 1, 2, 3) + many.merged(), 30);
        Bench.feed(many, "q");
        many.put(2, 28, 0, 0, 0);
        due("25: 31 nodes", many.merge(0, 1, 2, 3), 1);
        due("25: what", Bench.clashes(many) + many.size(3), "-1:530");
        BranchMender deepest = Bench.threefold(Bench.chain(12));
        due("25: 11 deep", deepest.merge(0, 1, 2, 3) + deepest.merged(), 12);
        BranchMender chains = Bench.threefold("r(" + Bench.chain(6) + "," + Bench.chain(5).replace('a', 'b') + ")");
        chains.move(1, 7, 6, 0);
        Bench.feed(chains, "m");
        chains.put(2, 3, 0, 0, 1);
        due("25: 12 deep", chains.merge(0, 1, 2, 3), 1);
        due("25: what", Bench.clashes(chains), "-1:5");
        BranchMender ring = Bench.threefold("r(a,b)");
        ring.move(1, 1, 2, 0);
        ring.move(2, 2, 1, 0);
        due("25: each under the other", ring.merge(0, 1, 2, 3), 2);
        due("25: what", Bench.clashes(ring), "-1:5 0:3");
    }

    private static void mergeNewNodes() {
        BranchMender mender = Bench.with("r(a,b)");
        mender.copy(0, 1);
        Bench.feed(mender, "n");
        mender.put(1, 0, 0, 0, 2);
        mender.copy(1, 2);
        Bench.relabel(mender, 1, 3, "left");
        Bench.relabel(mender, 2, 3, "right");
        Bench.retext(mender, 2, 3, "1");
        mender.move(2, 1, 3, 1);
        due("25: a node that O hasn't", mender.merge(0, 1, 2, 3), 3);
        due("25: what", Bench.clashes(mender), "3:1 3:2 3:3");
        due("25: L's", Bench.written(mender, 3), "r(left(a,b))");
        due("25: the other way", mender.merge(0, 2, 1, 3), 3);
        due("25: L's again", Bench.written(mender, 3), "r(right=1(b,a))");
        BranchMender gone = Bench.threefold("r(a(x),b)");
        gone.take(1, 1);
        Bench.relabel(gone, 2, 1, "q");
        Bench.feed(gone, "n");
        gone.put(2, 1, 1, 1, 0);
        due("25: one hand took it", gone.merge(0, 1, 2, 3), 0);
        due("25: it is gone", Bench.written(gone, 3), "r(x,b)");
        Bench.feed(gone, "m");
        gone.put(2, 0, 1, 2, 0);
        due("25: both changed the list", gone.merge(0, 1, 2, 3), 1);
        due("25: what", Bench.clashes(gone), "0:3");
        due("25: O's list, the other's fields", Bench.written(gone, 3), "r(q(x,n{}),b)");
        BranchMender lost = Bench.threefold("r(a(x),b)");
        lost.take(1, 2);
        lost.take(1, 1);
        Bench.relabel(lost, 1, 3, "l");
        Bench.relabel(lost, 2, 3, "m");
        due("25: clash", lost.merge(0, 1, 2, 3), 1);
        due("25: by name", Bench.clashes(lost), "3:1");
    }

    private static void merged() {
        BranchMender mender = Bench.threefold("r(a,b)");
        due("26: none yet", mender.merged(), 0);
        mender.take(1, 1);
        mender.merge(0, 1, 2, 4);
        due("26: two", mender.merged(), 2);
        mender.clear(4);
        due("26: it stays", mender.merged(), 2);
        mender.merge(0, 1, 2, 9);
        due("26: behind a finding", mender.merged(), 2);
        Bench.read(mender, 5, "r");
        mender.merge(0, 5, 2, 4);
        due("26: it made none", mender.merged(), 0);
    }

    private static void clash() {
        BranchMender mender = Bench.threefold("r(b=1,a=1)");
        due("27: none yet", mender.clash(0, 9), Bench.NONE);
        for (int name = 2; name >= 0; name--) {
            Bench.relabel(mender, 1, name, "l");
            Bench.relabel(mender, 2, name, "m");
            Bench.retext(mender, 1, name, "8");
            Bench.retext(mender, 2, name, "9");
        }
        due("27: six", mender.merge(0, 1, 2, 3), 6);
        due("27: by name, then by what", Bench.clashes(mender), "0:1 0:2 1:1 1:2 2:1 2:2");
        due("27: above", mender.clash(6, 0), Bench.NONE);
        due("27: below", mender.clash(-1, 0), Bench.NONE);
        due("27: NONE ahead of BEYOND", mender.clash(6, 2), Bench.NONE);
        due("27: another what", mender.clash(0, 2), Bench.BEYOND);
        due("27: what below", mender.clash(5, -1), Bench.BEYOND);
        Bench.read(mender, 4, "r");
        mender.merge(0, 1, 4, 3);
        int beyonds = mender.found(-1);
        due("27: the roots' name", mender.clash(0, 0), -1);
        due("27: it is no finding", mender.found(-1), beyonds);
        mender.merge(0, 0, 0, 3);
        due("27: none now", mender.clash(0, 0), Bench.NONE);
        clashesRise();
        BranchMender moved = Bench.threefold("r(a(x),b)");
        moved.move(1, 3, 0, 0);
        moved.move(1, 2, 0, 0);
        due("27: names are those of lists, too", moved.merge(0, 1, 2, 3), 0);
    }

    private static void clashesRise() {
        BranchMender mender = Bench.threefold("r(a,b,c,d)");
        mender.move(1, 4, 0, 0);
        mender.move(1, 2, 0, 3);
        for (int name = 1; name < 5; name++) {
            Bench.relabel(mender, 1, name, "l");
            Bench.relabel(mender, 2, name, "m");
        }
        mender.merge(0, 1, 2, 3);
        due("27: rising, however the rows stand", Bench.clashes(mender), "1:1 2:1 3:1 4:1");
        BranchMender most = Bench.threefold("r(" + "a(b),".repeat(14) + "c)");
        for (int name = 0; name < 30; name++) {
            Bench.relabel(most, 1, name, "l");
            Bench.relabel(most, 2, name, "m");
            Bench.retext(most, 1, name, "1");
            Bench.retext(most, 2, name, "2");
        }
        most.move(1, 29, 0, 0);
        most.move(2, 29, 0, 1);
        due("27: many", most.merge(0, 1, 2, 3), 61);
        due("27: the last", most.clash(60, 0) * 10 + most.clash(60, 1), 292);
    }

    private static void found() {
        BranchMender mender = Bench.with("r<a,w!,b(a)>");
        for (int finding = -7; finding <= -1; finding++) {
            due("28: none yet", mender.found(finding), 0);
        }
        due("28: none of read()", mender.found(-9), 0);
        mender.read(0);
        due("28: read()", mender.found(-9), 1);
        mender.take(0, 0);
        due("28: ROOT", mender.found(-7), 1);
        mender.take(0, 9);
        mender.pair(0, 0);
        due("28: NONE", mender.found(-6), 2);
        Bench.feed(mender, "x".repeat(400));
        mender.feed(0, 1);
        due("28: FULL", mender.found(-5), 1);
        mender.relabel(0, 1);
        due("28: KIND", mender.found(-3), 1);
        mender.take(0, 3);
        due("28: KEY", mender.found(-4), 1);
        mender.size(1);
        due("28: NOTHING", mender.found(-2), 1);
        mender.size(8);
        due("28: BEYOND", mender.found(-1), 1);
        int[] others = {0, 1, -8, -10, -11, Bench.MIN, Bench.MAX};
        for (int other : others) {
            due("28: another number", mender.found(other), Bench.BEYOND);
        }
        due("28: counted, too", mender.found(-1), 1 + others.length);
        due("28: not by found() of a finding", mender.found(-1), 1 + others.length);
    }

    private static void findingsChangeNothing() {
        BranchMender mender = Bench.with("r<a(x,x),b,w!>");
        String before = Bench.written(mender, 0);
        mender.map(0, 0);
        Bench.put(mender, "b", 0, 0, 0, 1);
        mender.take(0, 1);
        mender.move(0, 1, 0, 9);
        Bench.put(mender, "k", 1, 2, 0, 2);
        due("a refused act changes nothing", Bench.written(mender, 0), before);
        due("nor names", Bench.names(mender, 0), "0 1 2 3 4 5");
        due("nor the next name", Bench.put(mender, "k", 0, 0, 0, 0), 6);
        due("nor the mapping", mender.like(), 100);
    }
}
