import java.util.Random;

/**
 * Runs of as many calls as an object promises, the same at every start, on a workshop and on the model of the document:
 * each call must answer the same in both. A run is made of acts, and then asks what can be told of the state.
 */
public final class ModelTests {
    private static final int RUNS = 6000;
    private static final int CALLS = 512;
    private static final String[] SHORT_TEXTS = {"a", "e e", "ab", "aa/e a", "zzzz", "a b c", "eeeeeeee", "f/f"};
    private static final String[] TEXTS = {"a", "e e", "the cat/sat on", "aaaa eeee/a/b", "a b c d e f g", "zz/zz/zz zz zz",
        "eeeeeeeeeeeeeeee", "a/a/a/a/a", "uxux uxux/ux ux", "abc def ghi/jkl mno pqr/stu vwx yz", "eeeeeeeeeeeeeeeeeeeeeeee",
        "ffffffffffffffffffffffffffffff/ffffffffff ffffffffff ffffff"};

    private final Random random;
    private final TypeWorkshop real = new TypeWorkshop();
    private final Model model = new Model();
    /** Some runs use short texts alone, so that more of their calls are acts. */
    private final String[] texts;
    private int calls = 0;

    private ModelTests(int run) {
        random = new Random(run);
        texts = run % 3 == 0 ? TEXTS : SHORT_TEXTS;
    }

    private boolean mayAsk() {
        return calls < CALLS;
    }

    private void same(String call, long got, long want) {
        calls++;
        Check.due("call " + calls + ", " + call, got, want);
    }

    private int below(int bound) {
        return random.nextInt(bound);
    }

    private boolean oneIn(int bound) {
        return below(bound) == 0;
    }

    /** Mostly a value from low to high, at times one that is just outside, or far outside. */
    private int near(int low, int high) {
        if (oneIn(25)) {
            int[] odd = {low - 1, high + 1, Integer.MIN_VALUE, Integer.MAX_VALUE, low, high, -1, 0};
            return odd[below(odd.length)];
        }
        return low + below(high - low + 1);
    }

    private int anyCase() {
        return near(0, Math.max(0, model.count(0) - 1));
    }

    private int anyJob() {
        return near(0, Math.max(0, model.count(1) - 1));
    }

    private int anySort() {
        return near(0, 28);
    }

    /** Mostly one of those that the texts and their gaps need. */
    private int usedSort() {
        int[] used = {0, 1, 4, 5, 25, 26, 27, 28};
        return oneIn(3) ? anySort() : used[below(used.length)];
    }

    private void typeText(String text) {
        for (int i = 0; i < text.length() && mayAsk(); i++) {
            char sign = text.charAt(i);
            same("type(" + (int) sign + ")", real.type(sign), model.type(sign));
        }
    }

    private void type() {
        if (oneIn(2)) {
            same("clearText()", real.clearText(), model.clearText());
            typeText(texts[below(texts.length)]);
            return;
        }
        String signs = oneIn(4) ? "ab /" + (char) ('`' + below(28)) + (char) below(65536) : "abefuz";
        for (int i = below(oneIn(2) ? 20 : 3); i > 0; i--) {
            typeText("" + signs.charAt(below(signs.length())));
        }
    }

    private void order() {
        int box = anyCase();
        int measure = oneIn(3) ? near(10, 40) : near(10, 150);
        int due = oneIn(2) ? near(0, 60) : near(0, 9999);
        same("order(" + box + ", " + measure + ", " + due + ")", real.order(box, measure, due), model.order(box, measure, due));
    }

    private void cast() {
        int box = anyCase();
        int sort = usedSort();
        int count = near(1, 99);
        same("cast(" + box + ", " + sort + ", " + count + ")", real.cast(box, sort, count), model.cast(box, sort, count));
    }

    private void castFount() {
        int box = anyCase();
        int count = near(1, 9);
        same("castFount(" + box + ", " + count + ")", real.castFount(box, count), model.castFount(box, count));
    }

    private void melt() {
        int box = anyCase();
        int sort = oneIn(2) ? 26 + below(3) : anySort();
        int count = oneIn(2) ? near(1, 99) : near(1, 9);
        same("melt(" + box + ", " + sort + ", " + count + ")", real.melt(box, sort, count), model.melt(box, sort, count));
    }

    private void buy() {
        int metal = oneIn(3) ? near(1, 20000) : near(1, 900);
        same("buy(" + metal + ")", real.buy(metal), model.buy(metal));
    }

    private void jobAct(int kind) {
        int job = anyJob();
        switch (kind) {
            case 0 -> same("set(" + job + ")", real.set(job), model.set(job));
            case 1 -> same("castMissing(" + job + ")", real.castMissing(job), model.castMissing(job));
            case 2 -> same("print(" + job + ")", real.print(job), model.print(job));
            case 3 -> same("distribute(" + job + ")", real.distribute(job), model.distribute(job));
            default -> same("cancel(" + job + ")", real.cancel(job), model.cancel(job));
        }
    }

    private void history() {
        switch (below(4)) {
            case 0 -> same("keep()", real.keep(), model.keep());
            case 1 -> same("restore()", real.restore(), model.restore());
            default -> same("undo()", real.undo(), model.undo());
        }
    }

    private void step() {
        int kind = below(100);
        if (kind < 8) {
            buy();
        } else if (kind < 12) {
            same("addCase()", real.addCase(), model.addCase());
        } else if (kind < 18) {
            cast();
        } else if (kind < 24) {
            castFount();
        } else if (kind < 28) {
            melt();
        } else if (kind < 30) {
            same("meltBox()", real.meltBox(), model.meltBox());
        } else if (kind < 36) {
            type();
        } else if (kind < 45) {
            order();
        } else if (kind < 57) {
            jobAct(0);
        } else if (kind < 68) {
            jobAct(1);
        } else if (kind < 77) {
            jobAct(2);
        } else if (kind < 84) {
            jobAct(3);
        } else if (kind < 87) {
            jobAct(4);
        } else if (kind < 91) {
            int days = near(1, 30);
            same("pass(" + days + ")", real.pass(days), model.pass(days));
        } else if (kind < 95) {
            history();
        } else {
            askOne();
        }
    }

    private void askOne() {
        int job = anyJob();
        int box = oneIn(4) ? near(-1, 5) : anyCase();
        int sort = usedSort();
        switch (below(10)) {
            case 0 -> askCount(near(0, 15));
            case 1 -> same("urgent()", real.urgent(), model.urgent());
            case 2 -> same("pieces(" + box + ", " + sort + ")", real.pieces(box, sort), model.pieces(box, sort));
            case 3 -> askJob(job, near(0, 10));
            case 4 -> same("need(" + job + ", " + sort + ")", real.need(job, sort), model.need(job, sort));
            case 5 -> same("missing(" + job + ", " + sort + ")", real.missing(job, sort), model.missing(job, sort));
            case 6 -> same("taken(" + job + ", " + box + ", " + sort + ")", real.taken(job, box, sort),
                model.taken(job, box, sort));
            case 7 -> askGap(job);
            default -> askPiece(job);
        }
    }

    private void askCount(int what) {
        same("count(" + what + ")", real.count(what), model.count(what));
    }

    private void askJob(int job, int what) {
        same("job(" + job + ", " + what + ")", real.job(job, what), model.job(job, what));
    }

    private int anyLine(int job) {
        return near(0, Math.max(0, model.job(job, 4) - 1));
    }

    private void askGap(int job) {
        int line = anyLine(job);
        int gaps = 0;
        while (model.gap(job, line, gaps) >= 0) {
            gaps++;
        }
        int gap = near(0, gaps);
        same("gap(" + job + ", " + line + ", " + gap + ")", real.gap(job, line, gap), model.gap(job, line, gap));
    }

    private void askPiece(int job) {
        int line = anyLine(job);
        int pieces = 0;
        while (model.pieceAt(job, line, pieces) >= 0) {
            pieces++;
        }
        int index = near(0, pieces);
        same("pieceAt(" + job + ", " + line + ", " + index + ")", real.pieceAt(job, line, index),
            model.pieceAt(job, line, index));
    }

    private void run() {
        int acts = 100 + below(400);
        while (calls < acts && !Check.anyWrong()) {
            step();
        }
        for (int what = 0; what <= 15 && mayAsk(); what++) {
            askCount(what);
        }
        for (int job = 0; job < model.count(1); job++) {
            for (int what = 3; what <= 10 && mayAsk(); what++) {
                askJob(job, what);
            }
        }
        while (mayAsk() && !Check.anyWrong()) {
            askOne();
        }
    }

    public static void main(String[] args) {
        for (int run = 0; run < RUNS && !Check.anyWrong(); run++) {
            Check.part("model run " + run);
            new ModelTests(run).run();
        }
        Check.end();
    }
}
