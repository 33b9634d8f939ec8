import java.util.function.Supplier;
import java.util.function.ToIntFunction;

/** What the tests have in common: workshops that are made ready, texts, and everything that a workshop tells. */
abstract class Bench {
    static final int UNKNOWN = TypeWorkshop.UNKNOWN;
    static final int BAD_VALUE = TypeWorkshop.BAD_VALUE;
    static final int FULL = TypeWorkshop.FULL;
    static final int NOT_POSSIBLE = TypeWorkshop.NOT_POSSIBLE;
    static final int NONE = TypeWorkshop.NONE;
    static final int MIN = Integer.MIN_VALUE;
    static final int MAX = Integer.MAX_VALUE;
    static final int[] WRONG_BOTH_ENDS = {MIN, -2, -1, MAX};
    static final int FOUR_WIDE = 26;
    static final int TWO_WIDE = 27;
    static final int ONE_WIDE = 28;

    interface Part {
        void run();
    }

    static void part(String name, Part part) {
        Check.part(name);
        part.run();
    }

    static void due(String call, long got, long want) {
        Check.due(call, got, want);
    }

    static void write(TypeWorkshop x, String text) {
        x.clearText();
        for (char sign : text.toCharArray()) {
            x.type(sign);
        }
    }

    static int order(TypeWorkshop x, String text, int box, int measure, int due) {
        write(x, text);
        return x.order(box, measure, due);
    }

    static TypeWorkshop withCases(int cases, int metal) {
        TypeWorkshop x = new TypeWorkshop();
        for (int i = 0; i < cases; i++) {
            x.addCase();
        }
        for (int left = metal; left > 0; left -= 20000) {
            x.buy(Math.min(left, 20000));
        }
        return x;
    }

    static String line(TypeWorkshop x, int job, int line) {
        StringBuilder told = new StringBuilder();
        int sign = x.pieceAt(job, line, 0);
        for (int i = 1; i <= 200 && sign >= 0; i++) {
            told.append((char) sign);
            sign = x.pieceAt(job, line, i);
        }
        return told.toString();
    }

    static void lineIs(TypeWorkshop x, int job, int line, String want) {
        String got = line(x, job, line);
        Check.holds("line " + line + " of job " + job + " is " + got + ", due is " + want, got.equals(want));
    }

    /** What is made, with one call more. */
    static Supplier<TypeWorkshop> then(Supplier<TypeWorkshop> made, ToIntFunction<TypeWorkshop> call) {
        return () -> {
            TypeWorkshop x = made.get();
            call.applyAsInt(x);
            return x;
        };
    }

    /**
     * Asks of a workshop that can be made again. An object promises no more than 512 answers, so after some questions
     * the next one is made; what makes it has the other calls.
     */
    private static final class Asked {
        private static final int QUESTIONS = 200;
        private final Supplier<TypeWorkshop> made;
        private TypeWorkshop x;
        private int questions = 0;

        Asked(Supplier<TypeWorkshop> made) {
            this.made = made;
        }

        TypeWorkshop next() {
            if (questions % QUESTIONS == 0) {
                x = made.get();
            }
            questions++;
            return x;
        }
    }

    /** Everything that a workshop tells of its state, so without the history and the text. */
    static String state(Supplier<TypeWorkshop> made) {
        Asked asked = new Asked(made);
        StringBuilder told = new StringBuilder();
        for (int what = 0; what <= 13; what++) {
            told.append(" count ").append(what).append(' ').append(asked.next().count(what));
        }
        told.append(" urgent ").append(asked.next().urgent());
        int cases = asked.next().count(0);
        for (int box = -1; box < cases; box++) {
            for (int sort = 0; sort < 29; sort++) {
                told.append(" pieces ").append(box).append(' ').append(sort).append(' ').append(asked.next().pieces(box, sort));
            }
        }
        int jobs = asked.next().count(1);
        for (int job = 0; job < jobs; job++) {
            tellJob(asked, job, cases, told);
        }
        return told.toString();
    }

    private static void tellJob(Asked asked, int job, int cases, StringBuilder told) {
        told.append(" job ").append(job);
        for (int what = 0; what <= 10; what++) {
            told.append(' ').append(asked.next().job(job, what));
        }
        for (int sort = 0; sort < 29; sort++) {
            told.append(" need ").append(asked.next().need(job, sort)).append(' ').append(asked.next().missing(job, sort));
            for (int box = 0; box < cases; box++) {
                told.append(' ').append(asked.next().taken(job, box, sort));
            }
        }
        int lines = asked.next().job(job, 4);
        for (int line = 0; line < lines; line++) {
            told.append(" line ");
            int sign = asked.next().pieceAt(job, line, 0);
            for (int i = 1; i <= 200 && sign >= 0; i++) {
                told.append((char) sign);
                sign = asked.next().pieceAt(job, line, i);
            }
            int width = asked.next().gap(job, line, 0);
            for (int gap = 1; gap <= 60 && width >= 0; gap++) {
                told.append(' ').append(width);
                width = asked.next().gap(job, line, gap);
            }
        }
    }

    static void sameText(String what, String got, String want) {
        int at = 0;
        while (at < got.length() && at < want.length() && got.charAt(at) == want.charAt(at)) {
            at++;
        }
        String where = got.equals(want) ? "" : got.substring(Math.max(0, at - 20), Math.min(got.length(), at + 10))
            + " is told, due is " + want.substring(Math.max(0, at - 20), Math.min(want.length(), at + 10));
        Check.holds(what + ": " + where, where.isEmpty());
    }
}
