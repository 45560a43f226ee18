import java.nio.charset.StandardCharsets;

/** What the tests share: a mender that is fed with texts, and a count of the answers not due. */
final class Bench {
    static final int BEYOND = -1;
    static final int NOTHING = -2;
    static final int KIND = -3;
    static final int KEY = -4;
    static final int FULL = -5;
    static final int NONE = -6;
    static final int ROOT = -7;

    static final int MIN = Integer.MIN_VALUE;
    static final int MAX = Integer.MAX_VALUE;

    private static int wrong = 0;
    private static int sentences = 0;
    private static String heading = "";

    private Bench() {
    }

    /** What is due from here on is what this sentence of the document asks. */
    static void sentence(String words) {
        sentences++;
        heading = words + " | ";
    }

    static void due(String call, Object got, Object want) {
        if (!got.equals(want)) {
            wrong++;
            if (wrong <= 50) {
                System.out.println(heading + call + " answered " + got + ", due is " + want);
            }
        }
    }

    static void end(String what) {
        String tested = sentences == 0 ? what : what + ", " + sentences + " sentences";
        System.out.println(tested + ": " + (wrong == 0 ? "all answers are as due" : wrong + " answers are not as due"));
        if (wrong != 0) {
            System.exit(1);
        }
    }

    static boolean hasFailed() {
        return wrong > 0;
    }

    /** Lays a text on the tape, eight bytes a call. */
    static void feed(BranchMender mender, String text) {
        byte[] bytes = text.getBytes(StandardCharsets.ISO_8859_1);
        for (int start = 0; start < bytes.length; start += 8) {
            int n = Math.min(8, bytes.length - start);
            mender.feed(word(bytes, start, n), n);
        }
    }

    static long word(byte[] bytes, int start, int n) {
        long word = 0;
        for (int k = n - 1; k >= 0; k--) {
            word = word << 8 | bytes[start + k] & 255;
        }
        return word;
    }

    static int read(BranchMender mender, int p, String text) {
        feed(mender, text);
        return mender.read(p);
    }

    /** A new object with trees at its places from 0 on. */
    static BranchMender with(String... texts) {
        BranchMender mender = new BranchMender();
        for (int p = 0; p < texts.length; p++) {
            int count = read(mender, p, texts[p]);
            if (count < 1) {
                due("read of " + texts[p], count, "a tree");
            }
        }
        return mender;
    }

    /** A new object with one tree at places 0, 1 and 2: an origin and what two hands have of it. */
    static BranchMender threefold(String text) {
        BranchMender mender = with(text);
        mender.copy(0, 1);
        mender.copy(0, 2);
        return mender;
    }

    /** Nodes that each are the only child of the one ahead. */
    static String chain(int nodes) {
        return "a(".repeat(nodes - 1) + "a" + ")".repeat(nodes - 1);
    }

    /** A root with all other nodes as its children. */
    static String flat(int nodes) {
        return "r(" + "c,".repeat(nodes - 2) + "c)";
    }

    static int relabel(BranchMender mender, int p, int name, String label) {
        feed(mender, label);
        return mender.relabel(p, name);
    }

    static int retext(BranchMender mender, int p, int name, String text) {
        feed(mender, text);
        return mender.retext(p, name);
    }

    /** Of tree 0; the rest is the name, the kind, from and n. */
    static int put(BranchMender mender, String label, int... rest) {
        return putAt(mender, 0, label, rest);
    }

    static int putAt(BranchMender mender, int p, String label, int... rest) {
        feed(mender, label);
        return mender.put(p, rest[0], rest[1], rest[2], rest[3]);
    }

    static String written(BranchMender mender, int p) {
        int length = mender.write(p);
        StringBuilder text = new StringBuilder();
        for (int i = 0; i < length; i++) {
            text.append((char) mender.letter(i));
        }
        return length < 0 ? String.valueOf(length) : text.toString();
    }

    /** The names of tree p AHEAD. */
    static String names(BranchMender mender, int p) {
        StringBuilder names = new StringBuilder();
        for (int i = 0; i < mender.size(p); i++) {
            names.append(i == 0 ? "" : " ").append(mender.node(p, i, 0));
        }
        return names.toString();
    }

    static String pairs(BranchMender mender) {
        StringBuilder pairs = new StringBuilder();
        for (int i = 0; mender.pair(i, 0) != NONE; i++) {
            pairs.append(i == 0 ? "" : " ").append(mender.pair(i, 0)).append('-').append(mender.pair(i, 1));
        }
        return pairs.toString();
    }

    /** Each act as its letter (L, X, P, T), the node's name and the price. */
    static String acts(BranchMender mender) {
        StringBuilder acts = new StringBuilder();
        for (int i = 0; i < mender.acts(); i++) {
            acts.append(i == 0 ? "" : " ").append("LXPT".charAt(mender.act(i, 0)));
            acts.append(mender.act(i, 1)).append('/').append(mender.act(i, 2));
        }
        return acts.toString();
    }

    /** Each clash as the node's name and what clashes. */
    static String clashes(BranchMender mender) {
        StringBuilder clashes = new StringBuilder();
        for (int i = 0; mender.clash(i, 1) != NONE; i++) {
            clashes.append(i == 0 ? "" : " ").append(mender.clash(i, 0)).append(':').append(mender.clash(i, 1));
        }
        return clashes.toString();
    }
}
