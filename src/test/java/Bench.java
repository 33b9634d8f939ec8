/** What the tests have in common: workshops that are made ready, texts, and everything that a workshop tells. */
abstract class Bench {
    static final int UNKNOWN = TypeWorkshop.UNKNOWN;
    static final int BAD_VALUE = TypeWorkshop.BAD_VALUE;
    static final int FULL = TypeWorkshop.FULL;
    static final int NOT_POSSIBLE = TypeWorkshop.NOT_POSSIBLE;
    static final int NONE = TypeWorkshop.NONE;
    static final int MIN = Integer.MIN_VALUE;
    static final int MAX = Integer.MAX_VALUE;
    static final int[] WRONG_BOTH_ENDS = {MIN, -2, -1, MAX};
    static final int FOUR_WIDE = 26;
    static final int TWO_WIDE = 27;
    static final int ONE_WIDE = 28;

    interface Part {
        void run();
    }

    static void part(String name, Part part) {
        Check.part(name);
        part.run();
    }

    static void due(String call, long got, long want) {
        Check.due(call, got, want);
    }

    static void write(TypeWorkshop x, String text) {
        x.clearText();
        for (char sign : text.toCharArray()) {
            x.type(sign);
        }
    }

    static int order(TypeWorkshop x, String text, int box, int measure, int due) {
        write(x, text);
        return x.order(box, measure, due);
    }

    static TypeWorkshop withCases(int cases, int metal) {
        TypeWorkshop x = new TypeWorkshop();
        for (int i = 0; i < cases; i++) {
            x.addCase();
        }
        for (int left = metal; left > 0; left -= 20000) {
            x.buy(Math.min(left, 20000));
        }
        return x;
    }

    static String line(TypeWorkshop x, int job, int line) {
        StringBuilder told = new StringBuilder();
        for (int i = 0; i < 200 && x.pieceAt(job, line, i) >= 0; i++) {
            told.append((char) x.pieceAt(job, line, i));
        }
        return told.toString();
    }

    static void lineIs(TypeWorkshop x, int job, int line, String want) {
        String got = line(x, job, line);
        Check.holds("line " + line + " of job " + job + " is " + got + ", due is " + want, got.equals(want));
    }

    /** Everything that a workshop tells of its state, so without the history and the text. */
    static String state(TypeWorkshop x) {
        StringBuilder told = new StringBuilder();
        for (int what = 0; what <= 13; what++) {
            told.append(" count ").append(what).append(' ').append(x.count(what));
        }
        told.append(" urgent ").append(x.urgent());
        for (int box = -1; box < x.count(0); box++) {
            for (int sort = 0; sort < 29; sort++) {
                told.append(" pieces ").append(box).append(' ').append(sort).append(' ').append(x.pieces(box, sort));
            }
        }
        for (int job = 0; job < x.count(1); job++) {
            tellJob(x, job, told);
        }
        return told.toString();
    }

    private static void tellJob(TypeWorkshop x, int job, StringBuilder told) {
        told.append(" job ").append(job);
        for (int what = 0; what <= 10; what++) {
            told.append(' ').append(x.job(job, what));
        }
        for (int sort = 0; sort < 29; sort++) {
            told.append(" need ").append(x.need(job, sort)).append(' ').append(x.missing(job, sort));
            for (int box = 0; box < x.count(0); box++) {
                told.append(' ').append(x.taken(job, box, sort));
            }
        }
        for (int line = 0; line < x.job(job, 4); line++) {
            told.append(" line ").append(line(x, job, line));
            for (int gap = 0; x.gap(job, line, gap) >= 0; gap++) {
                told.append(' ').append(x.gap(job, line, gap));
            }
        }
    }

    static void sameText(String what, String got, String want) {
        int at = 0;
        while (at < got.length() && at < want.length() && got.charAt(at) == want.charAt(at)) {
            at++;
        }
        String where = got.equals(want) ? "" : got.substring(Math.max(0, at - 20), Math.min(got.length(), at + 10))
            + " is told, due is " + want.substring(Math.max(0, at - 20), Math.min(want.length(), at + 10));
        Check.holds(what + ": " + where, where.isEmpty());
    }
}
