import java.nio.charset.StandardCharsets;

/** What the tests share: a mender that is fed with texts, and a count of the answers not due. */
final class Bench {
    static final int BEYOND = -1;
    static final int NOTHING = -2;
    static final int KIND = -3;
    static final int KEY = -4;
    static final int FULL = -5;
    static final int NONE = -6;
    static final int ROOT = -7;

    private static int wrong = 0;

    private Bench() {
    }

    static void due(String call, Object got, Object want) {
        if (!got.equals(want)) {
            wrong++;
            if (wrong <= 50) {
                System.out.println(call + " answered " + got + ", due is " + want);
            }
        }
    }

    static void end(String what) {
        System.out.println(what + ": " + (wrong == 0 ? "all answers are as due" : wrong + " answers are not as due"));
        if (wrong != 0) {
            System.exit(1);
        }
    }

    static boolean hasFailed() {
        return wrong > 0;
    }

    /** Lays a text on the tape, eight bytes a call. */
    static void feed(BranchMender mender, String text) {
        byte[] bytes = text.getBytes(StandardCharsets.ISO_8859_1);
        for (int start = 0; start < bytes.length; start += 8) {
            int n = Math.min(8, bytes.length - start);
            mender.feed(word(bytes, start, n), n);
        }
    }

    static long word(byte[] bytes, int start, int n) {
        long word = 0;
        for (int k = n - 1; k >= 0; k--) {
            word = word << 8 | bytes[start + k] & 255;
        }
        return word;
    }

    static int read(BranchMender mender, int p, String text) {
        feed(mender, text);
        return mender.read(p);
    }

    static String written(BranchMender mender, int p) {
        int length = mender.write(p);
        StringBuilder text = new StringBuilder();
        for (int i = 0; i < length; i++) {
            text.append((char) mender.letter(i));
        }
        return length < 0 ? String.valueOf(length) : text.toString();
    }

    /** The names of tree p AHEAD. */
    static String names(BranchMender mender, int p) {
        StringBuilder names = new StringBuilder();
        for (int i = 0; i < mender.size(p); i++) {
            names.append(i == 0 ? "" : " ").append(mender.node(p, i, 0));
        }
        return names.toString();
    }

    static String pairs(BranchMender mender) {
        StringBuilder pairs = new StringBuilder();
        for (int i = 0; mender.pair(i, 0) != NONE; i++) {
            pairs.append(i == 0 ? "" : " ").append(mender.pair(i, 0)).append('-').append(mender.pair(i, 1));
        }
        return pairs.toString();
    }

    /** Each act as its letter (L, X, P, T), the node's name and the price. */
    static String acts(BranchMender mender) {
        StringBuilder acts = new StringBuilder();
        for (int i = 0; i < mender.acts(); i++) {
            acts.append(i == 0 ? "" : " ").append("LXPT".charAt(mender.act(i, 0)));
            acts.append(mender.act(i, 1)).append('/').append(mender.act(i, 2));
        }
        return acts.toString();
    }

    /** Each clash as the node's name and what clashes. */
    static String clashes(BranchMender mender) {
        StringBuilder clashes = new StringBuilder();
        for (int i = 0; mender.clash(i, 1) != NONE; i++) {
            clashes.append(i == 0 ? "" : " ").append(mender.clash(i, 0)).append(':').append(mender.clash(i, 1));
        }
        return clashes.toString();
    }
}
