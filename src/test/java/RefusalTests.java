import java.util.List;
import java.util.function.Supplier;
import java.util.function.ToIntFunction;

/**
 * "A call that returns an error or NONE changes nothing", "the order of the @return line is the order of the checks", and
 * that each act records a state: of each method, each error that it can return.
 */
public final class RefusalTests extends Bench {
    private static final int BOUGHT = 3000;
    private static final int DISTRIBUTED = 0;
    private static final int CANCELLED = 1;
    private static final int PRINTED = 2;
    private static final int SET = 3;
    private static final int ORDERED = 4;
    private static final int LACKING = 5;
    private static final int FAR_TOO_WIDE = 6;

    /** Two cases, jobs in each state, pieces in the box, a text, a snapshot, and a history that is full. */
    private static TypeWorkshop busy() {
        TypeWorkshop x = withCases(2, BOUGHT);
        x.castFount(0, 6);
        x.castFount(1, 6);
        x.cast(1, 0, 80);
        x.keep();
        due("order", order(x, "aaaaaaaaaaaaaaaa", 1, 40, 5), DISTRIBUTED);
        due("order", order(x, "cab", 0, 40, 5), CANCELLED);
        due("order", order(x, "cab bac/dab", 0, 40, 2), PRINTED);
        due("order", order(x, "face/deaf", 1, 40, 7), SET);
        due("order", order(x, "fed", 0, 20, 9), ORDERED);
        due("order", order(x, "eeeeeeeeeeeee ee", 0, 98, 9), LACKING);
        due("order", order(x, "a/a/a/a/a", 0, 150, 9), FAR_TOO_WIDE);
        due("set", x.set(DISTRIBUTED), 0);
        x.print(DISTRIBUTED);
        due("distribute", x.distribute(DISTRIBUTED), 2);
        x.cancel(CANCELLED);
        x.pass(3);
        due("set", x.set(PRINTED), 0);
        due("print", x.print(PRINTED), 1);
        due("set", x.set(SET), 0);
        x.pass(1);
        x.pass(1);
        write(x, "what stands here/stays");
        due("pot", x.count(2), BOUGHT - 2 * 696 - 160);
        return x;
    }

    /** As it is when the metal is spent but for a little. */
    private static TypeWorkshop poor() {
        TypeWorkshop x = busy();
        x.cast(0, 4, 93);
        x.cast(0, 9, 90);
        x.cast(0, 14, 56);
        x.melt(0, 14, 14);
        due("pot", x.count(2), BOUGHT - 1552 - 6 * (93 + 90 + 42));
        x.cast(0, 27, 45);
        due("pot", x.count(2), 8);
        return x;
    }

    /** As many cases, jobs, characters and as much metal as there can be. */
    private static TypeWorkshop full() {
        TypeWorkshop x = busy();
        for (int box = 2; box < 6; box++) {
            x.addCase();
        }
        write(x, "a");
        for (int job = 7; job < 12; job++) {
            x.order(0, 10, 9999);
        }
        for (int i = 0; i < 4; i++) {
            x.buy(20000);
        }
        due("buy", x.buy(100000 - x.count(2)), 100000);
        x.pass(1);
        write(x, "a".repeat(60));
        due("cases", x.count(0), 6);
        due("jobs", x.count(1), 12);
        due("length", x.count(15), 60);
        return x;
    }

    private static TypeWorkshop fresh() {
        return new TypeWorkshop();
    }

    /** No snapshot, no history, no pieces in the box, a text. */
    private static TypeWorkshop bare() {
        TypeWorkshop x = withCases(1, 0);
        write(x, "ab c");
        for (int i = 0; i < 5; i++) {
            x.pass(1);
        }
        for (int left = 4; left >= 0; left--) {
            due("undo", x.undo(), left);
        }
        return x;
    }

    /** What is asked of both afterwards: another act, all of the history, and the snapshot. */
    private static final List<ToIntFunction<TypeWorkshop>> AFTERWARDS = List.of(x -> x.order(0, 150, 0), TypeWorkshop::undo,
        TypeWorkshop::undo, TypeWorkshop::undo, TypeWorkshop::undo, TypeWorkshop::undo, TypeWorkshop::undo,
        TypeWorkshop::restore);

    /** A twin is made that the call is not told to; they must not differ, nor in what undo() and restore() bring back. */
    private static void refused(String call, Supplier<TypeWorkshop> made, ToIntFunction<TypeWorkshop> asked, int want) {
        due(call, asked.applyAsInt(made.get()), want);
        Supplier<TypeWorkshop> one = then(made, asked);
        Supplier<TypeWorkshop> twin = made;
        same("after " + call, one, twin);
        for (int i = 0; i < AFTERWARDS.size(); i++) {
            ToIntFunction<TypeWorkshop> further = AFTERWARDS.get(i);
            String when = "further call " + i + " after " + call;
            due(when, further.applyAsInt(one.get()), further.applyAsInt(twin.get()));
            one = then(one, further);
            twin = then(twin, further);
            same(when, one, twin);
        }
    }

    private static void same(String when, Supplier<TypeWorkshop> one, Supplier<TypeWorkshop> twin) {
        due("history " + when, one.get().count(14), twin.get().count(14));
        due("text " + when, one.get().count(15), twin.get().count(15));
        sameText("state " + when, state(one), state(twin));
    }

    private static void buyAndAddCase() {
        for (int metal : new int[] {MIN, -1, 0, 20001, MAX}) {
            refused("buy(" + metal + ")", RefusalTests::busy, x -> x.buy(metal), BAD_VALUE);
            refused("buy(" + metal + "), full, too", RefusalTests::full, x -> x.buy(metal), BAD_VALUE);
        }
        refused("buy(1)", RefusalTests::full, x -> x.buy(1), FULL);
        refused("buy(20000)", RefusalTests::full, x -> x.buy(20000), FULL);
        refused("addCase()", RefusalTests::full, TypeWorkshop::addCase, FULL);
    }

    private static void cast() {
        for (int wrong : new int[] {MIN, -1, 2, MAX}) {
            refused("cast, box " + wrong, RefusalTests::busy, x -> x.cast(wrong, 0, 1), UNKNOWN);
            refused("cast, box before count " + wrong, RefusalTests::busy, x -> x.cast(wrong, 0, 0), UNKNOWN);
            int sort = wrong == 2 ? 29 : wrong;
            refused("cast, sort " + sort, RefusalTests::busy, x -> x.cast(0, sort, 1), UNKNOWN);
            refused("cast, sort before count " + sort, RefusalTests::busy, x -> x.cast(0, sort, 100), UNKNOWN);
            int count = wrong == 2 ? 100 : wrong;
            refused("cast, count " + count, RefusalTests::busy, x -> x.cast(0, 0, count), BAD_VALUE);
            refused("cast, count before metal " + count, RefusalTests::poor, x -> x.cast(1, 4, count), BAD_VALUE);
        }
        refused("cast, count 0", RefusalTests::busy, x -> x.cast(0, 0, 0), BAD_VALUE);
        refused("cast, count before full", RefusalTests::busy, x -> x.cast(1, 0, 100), BAD_VALUE);
        refused("cast, full", RefusalTests::busy, x -> x.cast(1, 28, 99), FULL);
        refused("cast, full before metal", RefusalTests::poor, x -> x.cast(0, 4, 99), FULL);
        refused("cast, metal", RefusalTests::poor, x -> x.cast(1, 4, 2), NOT_POSSIBLE);
    }

    private static void castFount() {
        for (int wrong : new int[] {MIN, -1, 2, MAX}) {
            refused("castFount, box " + wrong, RefusalTests::busy, x -> x.castFount(wrong, 1), UNKNOWN);
            refused("castFount, box before count " + wrong, RefusalTests::busy, x -> x.castFount(wrong, 0), UNKNOWN);
            int count = wrong == 2 ? 10 : wrong;
            refused("castFount, count " + count, RefusalTests::busy, x -> x.castFount(0, count), BAD_VALUE);
            refused("castFount, count before metal " + count, RefusalTests::poor, x -> x.castFount(1, count), BAD_VALUE);
        }
        refused("castFount, count 0", RefusalTests::busy, x -> x.castFount(0, 0), BAD_VALUE);
        refused("castFount, count before full", RefusalTests::poor, x -> x.castFount(0, 99), BAD_VALUE);
        refused("castFount, full before metal", RefusalTests::poor, x -> x.castFount(0, 9), FULL);
        refused("castFount, full", RefusalTests::crowded, x -> x.castFount(1, 1), FULL);
        refused("castFount, metal", RefusalTests::poor, x -> x.castFount(1, 1), NOT_POSSIBLE);
    }

    /** A case has 99 of its last letter, and room for all other sorts. */
    private static TypeWorkshop crowded() {
        TypeWorkshop x = busy();
        due("cast", x.cast(1, 25, 93), 99);
        return x;
    }

    private static void melt() {
        for (int wrong : new int[] {MIN, -1, 2, MAX}) {
            refused("melt, box " + wrong, RefusalTests::busy, x -> x.melt(wrong, 0, 1), UNKNOWN);
            refused("melt, box before count " + wrong, RefusalTests::busy, x -> x.melt(wrong, 0, 0), UNKNOWN);
            int sort = wrong == 2 ? 29 : wrong;
            refused("melt, sort " + sort, RefusalTests::busy, x -> x.melt(0, sort, 1), UNKNOWN);
            refused("melt, sort before count " + sort, RefusalTests::busy, x -> x.melt(0, sort, 100), UNKNOWN);
            int count = wrong == 2 ? 100 : wrong;
            refused("melt, count " + count, RefusalTests::busy, x -> x.melt(0, 0, count), BAD_VALUE);
        }
        refused("melt, count 0", RefusalTests::busy, x -> x.melt(0, 0, 0), BAD_VALUE);
        refused("melt, not so many", RefusalTests::busy, x -> x.melt(1, 28, 13), NOT_POSSIBLE);
        refused("meltBox, empty", RefusalTests::bare, TypeWorkshop::meltBox, NONE);
        refused("type, full", RefusalTests::full, x -> x.type('b'), FULL);
    }

    private static void orders() {
        for (int wrong : new int[] {MIN, -1, 2, MAX}) {
            refused("order, box " + wrong, RefusalTests::busy, x -> x.order(wrong, 150, 0), UNKNOWN);
            refused("order, box before measure " + wrong, RefusalTests::busy, x -> x.order(wrong, 9, 0), UNKNOWN);
            int measure = wrong == 2 ? 151 : wrong;
            refused("order, measure " + measure, RefusalTests::busy, x -> x.order(0, measure, 0), BAD_VALUE);
            refused("order, measure before full " + measure, RefusalTests::full, x -> x.order(0, measure, 0), BAD_VALUE);
            int due = wrong == 2 ? 10000 : wrong;
            refused("order, due day " + due, RefusalTests::busy, x -> x.order(0, 150, due), BAD_VALUE);
        }
        refused("order, measure 9", RefusalTests::busy, x -> x.order(0, 9, 0), BAD_VALUE);
        refused("order, no case", RefusalTests::fresh, x -> x.order(0, 150, 0), UNKNOWN);
        refused("order, too wide", RefusalTests::busy, x -> x.order(0, 30, 0), NOT_POSSIBLE);
        refused("order, too wide before full", RefusalTests::full, x -> x.order(0, 10, 0), NOT_POSSIBLE);
        refused("order, full", RefusalTests::full, x -> x.order(0, 150, 0), FULL);
        TypeWorkshop x = full();
        due("a fault before too wide and full", order(x, "eeeeeeeeee ", 0, 10, 0), -111);
        due("a box before a fault", order(x, "", 6, 10, 0), UNKNOWN);
        due("a measure before a fault", order(x, "", 0, 9, 0), BAD_VALUE);
        due("a due day before a fault", order(x, "", 0, 10, 10000), BAD_VALUE);
        due("a due day before too wide", order(x, "eeeeeeeeee", 0, 10, -1), BAD_VALUE);
        due("a fault", order(x, "", 0, 10, 0), -100);
        due("full at last", order(x, "a", 0, 10, 0), FULL);
        refused("order, a fault", RefusalTests::faulty, one -> one.order(0, 150, 0), -103);
    }

    private static TypeWorkshop withText(TypeWorkshop x, String text) {
        write(x, text);
        return x;
    }

    private static TypeWorkshop faulty() {
        return withText(busy(), "abc.");
    }

    private static void steps() {
        for (int wrong : new int[] {MIN, -1, 7, 12, MAX}) {
            refused("set " + wrong, RefusalTests::busy, x -> x.set(wrong), UNKNOWN);
            refused("castMissing " + wrong, RefusalTests::busy, x -> x.castMissing(wrong), UNKNOWN);
            refused("print " + wrong, RefusalTests::busy, x -> x.print(wrong), UNKNOWN);
            refused("distribute " + wrong, RefusalTests::busy, x -> x.distribute(wrong), UNKNOWN);
            refused("cancel " + wrong, RefusalTests::busy, x -> x.cancel(wrong), UNKNOWN);
        }
        for (int job : new int[] {SET, PRINTED, DISTRIBUTED, CANCELLED}) {
            refused("set " + job, RefusalTests::busy, x -> x.set(job), NOT_POSSIBLE);
            refused("castMissing, state before nothing is missing " + job, RefusalTests::busy, x -> x.castMissing(job),
                NOT_POSSIBLE);
        }
        for (int job : new int[] {ORDERED, PRINTED, DISTRIBUTED, CANCELLED}) {
            refused("print " + job, RefusalTests::busy, x -> x.print(job), NOT_POSSIBLE);
        }
        for (int job : new int[] {ORDERED, SET, DISTRIBUTED, CANCELLED}) {
            refused("distribute " + job, RefusalTests::busy, x -> x.distribute(job), NOT_POSSIBLE);
        }
        for (int job : new int[] {PRINTED, DISTRIBUTED, CANCELLED}) {
            refused("cancel " + job, RefusalTests::busy, x -> x.cancel(job), NOT_POSSIBLE);
        }
        refused("set, missing", RefusalTests::busy, x -> x.set(LACKING), NOT_POSSIBLE);
        refused("castMissing, nothing is missing", RefusalTests::busy, x -> x.castMissing(ORDERED), NONE);
        refused("castMissing, full", RefusalTests::busy, x -> x.castMissing(FAR_TOO_WIDE), FULL);
        refused("castMissing, full before metal", RefusalTests::poor, x -> x.castMissing(FAR_TOO_WIDE), FULL);
        refused("castMissing, metal", RefusalTests::lackingMetal, x -> x.castMissing(7), NOT_POSSIBLE);
        for (int days : new int[] {MIN, -1, 0, 31, MAX}) {
            refused("pass(" + days + ")", RefusalTests::busy, x -> x.pass(days), BAD_VALUE);
        }
    }

    /** Job 7 lacks a few pieces, for which there is room but no metal. */
    private static TypeWorkshop lackingMetal() {
        TypeWorkshop x = poor();
        due("order", order(x, "bbbbbbbbbbbbbbb", 0, 150, 0), 7);
        due("missing", x.missing(7, 1), 6);
        return x;
    }

    private static void history() {
        refused("undo, empty", RefusalTests::fresh, TypeWorkshop::undo, NONE);
        refused("undo, empty again", RefusalTests::bare, TypeWorkshop::undo, NONE);
        refused("restore, empty", RefusalTests::fresh, TypeWorkshop::restore, NONE);
        refused("restore, empty", RefusalTests::bare, TypeWorkshop::restore, NONE);
    }

    private static void tellings() {
        for (int wrong : new int[] {MIN, -2, -1, 7, 29, MAX}) {
            int sort = wrong == 7 ? 29 : wrong;
            refused("pieces, sort " + wrong, RefusalTests::busy, x -> x.pieces(0, sort), UNKNOWN);
            refused("pieces of the box, sort " + wrong, RefusalTests::busy, x -> x.pieces(-1, sort), UNKNOWN);
            refused("pieces, box " + wrong, RefusalTests::busy, x -> x.pieces(wrong == -1 ? 2 : wrong, 0), UNKNOWN);
            refused("job " + wrong, RefusalTests::busy, x -> x.job(wrong, 0), UNKNOWN);
            refused("job before what " + wrong, RefusalTests::busy, x -> x.job(wrong, 11), UNKNOWN);
            refused("job, what " + wrong, RefusalTests::busy, x -> x.job(0, wrong == 7 ? 11 : wrong), BAD_VALUE);
            refused("need " + wrong, RefusalTests::busy, x -> x.need(wrong, 0), UNKNOWN);
            refused("need, sort " + wrong, RefusalTests::busy, x -> x.need(0, sort), UNKNOWN);
            refused("missing " + wrong, RefusalTests::busy, x -> x.missing(wrong, 0), UNKNOWN);
            refused("missing, sort " + wrong, RefusalTests::busy, x -> x.missing(0, sort), UNKNOWN);
            refused("taken " + wrong, RefusalTests::busy, x -> x.taken(wrong, 0, 0), UNKNOWN);
            refused("taken, box " + wrong, RefusalTests::busy, x -> x.taken(SET, wrong, 0), UNKNOWN);
            refused("taken, sort " + wrong, RefusalTests::busy, x -> x.taken(SET, 0, sort), UNKNOWN);
            refused("gap, job before line " + wrong, RefusalTests::busy, x -> x.gap(wrong, 9, 9), UNKNOWN);
            refused("gap, line " + wrong, RefusalTests::busy, x -> x.gap(0, wrong, 0), NONE);
            refused("gap, gap " + wrong, RefusalTests::busy, x -> x.gap(0, 0, wrong), NONE);
            refused("pieceAt, job before line " + wrong, RefusalTests::busy, x -> x.pieceAt(wrong, 9, 0), UNKNOWN);
            refused("pieceAt, state before line " + wrong, RefusalTests::busy, x -> x.pieceAt(ORDERED, wrong, 0),
                NOT_POSSIBLE);
            refused("pieceAt, line " + wrong, RefusalTests::busy, x -> x.pieceAt(SET, wrong, 0), NONE);
            refused("pieceAt, index " + wrong, RefusalTests::busy, x -> x.pieceAt(PRINTED, 1, wrong == 7 ? 12 : wrong), NONE);
            refused("count " + wrong, RefusalTests::busy, x -> x.count(wrong == 7 ? 16 : wrong), BAD_VALUE);
        }
        refused("urgent", RefusalTests::bare, TypeWorkshop::urgent, NONE);
    }

    /** An act records the state that was before it, also when the history is full, and undo() brings it back whole. */
    private static void records(String call, ToIntFunction<TypeWorkshop> act) {
        for (int undone = 0; undone <= 2; undone += 2) {
            int times = undone;
            Supplier<TypeWorkshop> before = then(RefusalTests::busy, x -> undo(x, times));
            Supplier<TypeWorkshop> after = then(before, act);
            Supplier<TypeWorkshop> again = then(after, TypeWorkshop::undo);
            int answer = act.applyAsInt(before.get());
            Check.holds(call + " answers " + answer + ", which is an error or NONE", answer >= 0);
            int states = before.get().count(14);
            due("states ahead of " + call, states, 5 - undone);
            due("states after " + call, after.get().count(14), Math.min(states + 1, 5));
            Check.holds(call + " changes what is told", !state(after).equals(state(before)));
            due("undo() of " + call, after.get().undo(), Math.min(states, 4));
            sameText("undo() of " + call, state(again), state(before));
        }
    }

    private static int undo(TypeWorkshop x, int times) {
        for (int i = 0; i < times; i++) {
            x.undo();
        }
        return x.count(14);
    }

    private static void acts() {
        records("buy", x -> x.buy(1));
        records("addCase", TypeWorkshop::addCase);
        records("cast", x -> x.cast(0, 4, 1));
        records("castFount", x -> x.castFount(0, 1));
        records("melt", x -> x.melt(1, 0, 1));
        records("meltBox", TypeWorkshop::meltBox);
        records("order", x -> x.order(0, 150, 0));
        records("set", x -> x.set(ORDERED));
        records("castMissing", x -> x.castMissing(LACKING));
        records("print", x -> x.print(SET));
        records("distribute", x -> x.distribute(PRINTED));
        records("cancel of one ordered", x -> x.cancel(ORDERED));
        records("cancel of one set", x -> x.cancel(SET));
        records("pass", x -> x.pass(1));
        records("restore", TypeWorkshop::restore);
    }

    private static void noActs() {
        Supplier<TypeWorkshop> before = then(RefusalTests::busy, x -> undo(x, 2));
        Supplier<TypeWorkshop> after = then(then(then(before, x -> x.type('a')), TypeWorkshop::clearText), TypeWorkshop::keep);
        due("states", after.get().count(14), 3);
        sameText("type(), clearText() and keep() change no more than the text and the snapshot", state(after), state(before));
        due("undo() records none", then(after, TypeWorkshop::undo).get().count(14), 2);
    }

    public static void main(String[] args) {
        String nothing = "A call that returns an error or NONE changes nothing, and the order of the @return line is the order"
            + " of the checks: ";
        part(nothing + "buy, addCase", RefusalTests::buyAndAddCase);
        part(nothing + "cast", RefusalTests::cast);
        part(nothing + "castFount", RefusalTests::castFount);
        part(nothing + "melt, meltBox, type", RefusalTests::melt);
        part(nothing + "order", RefusalTests::orders);
        part(nothing + "set, castMissing, print, distribute, cancel, pass", RefusalTests::steps);
        part(nothing + "undo, restore", RefusalTests::history);
        part(nothing + "what is told", RefusalTests::tellings);
        part("Each call of a method that is described as an act .. records the state that was before it.", RefusalTests::acts);
        part("type, clearText, undo and keep are not described as acts.", RefusalTests::noActs);
        Check.end();
    }
}
