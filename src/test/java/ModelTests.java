import java.util.Random;

/**
 * Long runs of calls, the same at every start, on a workshop and on the model of the document: each call must answer
 * the same in both, and now and then everything that can be told is compared.
 */
public final class ModelTests {
    private static final int RUNS = 400;
    private static final int CALLS = 512;
    private static final String[] TEXTS = {"a", "e e", "the cat/sat on", "aaaa eeee/a/b", "a b c d e f g", "zz/zz/zz zz zz",
        "eeeeeeeeeeeeeeee", "a/a/a/a/a", "uxux uxux/ux ux", "abc def ghi/jkl mno pqr/stu vwx yz", "eeeeeeeeeeeeeeeeeeeeeeee",
        "ffffffffffffffffffffffffffffff/ffffffffff ffffffffff ffffff"};

    private final Random random;
    private final TypeWorkshop real = new TypeWorkshop();
    private final Model model = new Model();
    private int calls = 0;

    private ModelTests(int run) {
        random = new Random(run);
    }

    private void same(String call, long got, long want) {
        calls++;
        Check.due("call " + calls + ", " + call, got, want);
    }

    private int below(int bound) {
        return random.nextInt(bound);
    }

    private boolean oneIn(int bound) {
        return below(bound) == 0;
    }

    /** Mostly a value from low to high, at times one that is just outside, or far outside. */
    private int near(int low, int high) {
        if (oneIn(25)) {
            int[] odd = {low - 1, high + 1, Integer.MIN_VALUE, Integer.MAX_VALUE, low, high, -1, 0};
            return odd[below(odd.length)];
        }
        return low + below(high - low + 1);
    }

    private int anyCase() {
        return near(0, Math.max(0, model.count(0) - 1));
    }

    private int anyJob() {
        return near(0, Math.max(0, model.count(1) - 1));
    }

    private int anySort() {
        return near(0, 28);
    }

    private void typeText(String text) {
        for (char sign : text.toCharArray()) {
            same("type(" + (int) sign + ")", real.type(sign), model.type(sign));
        }
    }

    private void type() {
        if (oneIn(2)) {
            same("clearText()", real.clearText(), model.clearText());
            typeText(TEXTS[below(TEXTS.length)]);
            return;
        }
        String signs = oneIn(4) ? "ab /" + (char) ('`' + below(28)) + (char) below(65536) : "abefuz";
        for (int i = below(20); i > 0; i--) {
            typeText("" + signs.charAt(below(signs.length())));
        }
    }

    private void order() {
        int box = anyCase();
        int measure = oneIn(3) ? near(10, 40) : near(10, 150);
        int due = oneIn(2) ? near(0, 60) : near(0, 9999);
        same("order(" + box + ", " + measure + ", " + due + ")", real.order(box, measure, due), model.order(box, measure, due));
    }

    private void cast() {
        int box = anyCase();
        int sort = anySort();
        int count = near(1, 99);
        same("cast(" + box + ", " + sort + ", " + count + ")", real.cast(box, sort, count), model.cast(box, sort, count));
    }

    private void castFount() {
        int box = anyCase();
        int count = near(1, 9);
        same("castFount(" + box + ", " + count + ")", real.castFount(box, count), model.castFount(box, count));
    }

    private void melt() {
        int box = anyCase();
        int sort = oneIn(2) ? 26 + below(3) : anySort();
        int count = oneIn(2) ? near(1, 99) : near(1, 9);
        same("melt(" + box + ", " + sort + ", " + count + ")", real.melt(box, sort, count), model.melt(box, sort, count));
    }

    private void buy() {
        int metal = oneIn(3) ? near(1, 20000) : near(1, 900);
        same("buy(" + metal + ")", real.buy(metal), model.buy(metal));
    }

    private void jobAct(int kind) {
        int job = anyJob();
        switch (kind) {
            case 0 -> same("set(" + job + ")", real.set(job), model.set(job));
            case 1 -> same("castMissing(" + job + ")", real.castMissing(job), model.castMissing(job));
            case 2 -> same("print(" + job + ")", real.print(job), model.print(job));
            case 3 -> same("distribute(" + job + ")", real.distribute(job), model.distribute(job));
            default -> same("cancel(" + job + ")", real.cancel(job), model.cancel(job));
        }
    }

    private void history() {
        switch (below(4)) {
            case 0 -> same("keep()", real.keep(), model.keep());
            case 1 -> same("restore()", real.restore(), model.restore());
            default -> same("undo()", real.undo(), model.undo());
        }
    }

    private void step() {
        int kind = below(100);
        if (kind < 8) {
            buy();
        } else if (kind < 12) {
            same("addCase()", real.addCase(), model.addCase());
        } else if (kind < 18) {
            cast();
        } else if (kind < 24) {
            castFount();
        } else if (kind < 28) {
            melt();
        } else if (kind < 30) {
            same("meltBox()", real.meltBox(), model.meltBox());
        } else if (kind < 36) {
            type();
        } else if (kind < 45) {
            order();
        } else if (kind < 57) {
            jobAct(0);
        } else if (kind < 68) {
            jobAct(1);
        } else if (kind < 77) {
            jobAct(2);
        } else if (kind < 84) {
            jobAct(3);
        } else if (kind < 87) {
            jobAct(4);
        } else if (kind < 91) {
            int days = near(1, 30);
            same("pass(" + days + ")", real.pass(days), model.pass(days));
        } else if (kind < 95) {
            history();
        } else {
            askOne();
        }
    }

    private void askOne() {
        int job = anyJob();
        int box = near(-1, 5);
        int sort = anySort();
        int line = near(0, 3);
        int at = near(0, 20);
        int what = near(0, 15);
        same("pieces(" + box + ", " + sort + ")", real.pieces(box, sort), model.pieces(box, sort));
        same("job(" + job + ", " + what + ")", real.job(job, what), model.job(job, what));
        same("need(" + job + ", " + sort + ")", real.need(job, sort), model.need(job, sort));
        same("missing(" + job + ", " + sort + ")", real.missing(job, sort), model.missing(job, sort));
        same("taken(" + job + ", " + box + ", " + sort + ")", real.taken(job, box, sort), model.taken(job, box, sort));
        same("gap(" + job + ", " + line + ", " + at + ")", real.gap(job, line, at), model.gap(job, line, at));
        same("pieceAt(" + job + ", " + line + ", " + at + ")", real.pieceAt(job, line, at), model.pieceAt(job, line, at));
    }

    private void askAll() {
        for (int what = -1; what <= 16; what++) {
            same("count(" + what + ")", real.count(what), model.count(what));
        }
        same("urgent()", real.urgent(), model.urgent());
        for (int box = -2; box <= 6; box++) {
            for (int sort = -1; sort <= 29; sort++) {
                same("pieces(" + box + ", " + sort + ")", real.pieces(box, sort), model.pieces(box, sort));
            }
        }
        for (int job = -1; job <= model.count(1); job++) {
            askJob(job);
        }
    }

    private void askJob(int job) {
        for (int what = -1; what <= 11; what++) {
            same("job(" + job + ", " + what + ")", real.job(job, what), model.job(job, what));
        }
        for (int sort = -1; sort <= 29; sort++) {
            same("need(" + job + ", " + sort + ")", real.need(job, sort), model.need(job, sort));
            same("missing(" + job + ", " + sort + ")", real.missing(job, sort), model.missing(job, sort));
            for (int box = -1; box <= 6; box++) {
                same("taken(" + job + ", " + box + ", " + sort + ")", real.taken(job, box, sort), model.taken(job, box, sort));
            }
        }
        for (int line = -1; line <= Math.max(0, model.job(job, 4)); line++) {
            int gap = -1;
            int answer;
            do {
                answer = model.gap(job, line, gap);
                same("gap(" + job + ", " + line + ", " + gap + ")", real.gap(job, line, gap), answer);
                gap++;
            } while (gap <= 0 || answer >= 0);
            int index = -1;
            do {
                answer = model.pieceAt(job, line, index);
                same("pieceAt(" + job + ", " + line + ", " + index + ")", real.pieceAt(job, line, index), answer);
                index++;
            } while (index <= 0 || answer >= 0);
        }
    }

    private void run() {
        int budget = CALLS;
        for (int i = 0; i < budget && !Check.anyWrong(); i++) {
            step();
            if (i % 64 == 63) {
                askAll();
            }
        }
        askAll();
    }

    public static void main(String[] args) {
        for (int run = 0; run < RUNS && !Check.anyWrong(); run++) {
            Check.part("model run " + run);
            new ModelTests(run).run();
        }
        Check.end();
    }
}
