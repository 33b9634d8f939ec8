/** For each promise of the document: ordinary inputs, the edges that it names, and wrong inputs. */
public final class PromiseTests extends Bench {
    /** Whether a call that answers an error or NONE leaves everything that count() tells as it was. */
    private static long[] counts(TypeWorkshop x) {
        long[] told = new long[16];
        for (int what = 0; what < told.length; what++) {
            told[what] = x.count(what);
        }
        return told;
    }

    private static void unchanged(TypeWorkshop x, long[] before) {
        long[] after = counts(x);
        for (int what = 0; what < after.length; what++) {
            due("count(" + what + ") after what changes nothing", after[what], before[what]);
        }
    }

    private static void newObject() {
        TypeWorkshop x = new TypeWorkshop();
        for (int what = 0; what <= 15; what++) {
            due("count(" + what + ")", x.count(what), 0);
        }
        for (int sort = 0; sort < 29; sort++) {
            due("pieces(-1, " + sort + ")", x.pieces(-1, sort), 0);
            due("pieces(0, " + sort + ")", x.pieces(0, sort), UNKNOWN);
        }
        due("job(0, 0)", x.job(0, 0), UNKNOWN);
        due("urgent()", x.urgent(), NONE);
        due("undo()", x.undo(), NONE);
        due("restore()", x.restore(), NONE);
        due("clearText()", x.clearText(), 0);
    }

    private static void buy() {
        TypeWorkshop x = new TypeWorkshop();
        for (int metal : new int[] {MIN, -1, 0, 20001, MAX}) {
            due("buy(" + metal + ")", x.buy(metal), BAD_VALUE);
        }
        due("count(14)", x.count(14), 0);
        due("buy(1)", x.buy(1), 1);
        for (int i = 1; i < 5; i++) {
            due("buy(20000)", x.buy(20000), 20000 * i + 1);
        }
        due("buy(20000)", x.buy(20000), FULL);
        due("buy(20001) when full, too", x.buy(20001), BAD_VALUE);
        due("buy(19999)", x.buy(19999), 100000);
        due("buy(1)", x.buy(1), FULL);
        due("count(2)", x.count(2), 100000);
        due("count(6)", x.count(6), 100000);
        due("undo()", x.undo(), 4);
        due("count(6)", x.count(6), 80001);
    }

    private static void addCase() {
        TypeWorkshop x = new TypeWorkshop();
        for (int box = 0; box < 6; box++) {
            due("addCase()", x.addCase(), box);
            due("pieces(" + box + ", 28)", x.pieces(box, 28), 0);
            due("pieces(" + (box + 1) + ", 28)", x.pieces(box + 1, 28), UNKNOWN);
        }
        due("addCase()", x.addCase(), FULL);
        due("count(0)", x.count(0), 6);
        due("undo()", x.undo(), 4);
        due("count(0)", x.count(0), 5);
        due("addCase()", x.addCase(), 5);
    }

    private static void cast() {
        TypeWorkshop x = withCases(2, 1000);
        int[] widths = {2, 3, 4, 5, 6, 2, 3, 4, 5, 6, 2, 3, 4, 5, 6, 2, 3, 4, 5, 6, 2, 3, 4, 5, 6, 2, 4, 2, 1};
        int pot = 1000;
        for (int sort = 0; sort < 29; sort++) {
            due("cast(1, " + sort + ", 1)", x.cast(1, sort, 1), 1);
            pot -= widths[sort];
            due("count(2)", x.count(2), pot);
        }
        due("cast(1, 3, 2)", x.cast(1, 3, 2), 3);
        due("pieces(0, 3)", x.pieces(0, 3), 0);
        due("count(8)", x.count(8), 31);
        for (int wrong : WRONG_BOTH_ENDS) {
            due("cast(" + wrong + ", 0, 0)", x.cast(wrong, 0, 0), UNKNOWN);
            due("cast(0, " + wrong + ", 0)", x.cast(0, wrong, 0), UNKNOWN);
            due("cast(0, 0, " + wrong + ")", x.cast(0, 0, wrong), BAD_VALUE);
        }
        due("cast(2, 0, 1)", x.cast(2, 0, 1), UNKNOWN);
        due("cast(0, 29, 1)", x.cast(0, 29, 1), UNKNOWN);
        due("cast(0, 0, 0)", x.cast(0, 0, 0), BAD_VALUE);
        due("cast(0, 0, 100)", x.cast(0, 0, 100), BAD_VALUE);
        due("cast(1, 28, 99), full before metal", x.cast(1, 28, 99), FULL);
        due("cast(1, 28, 98)", x.cast(1, 28, 98), 99);
        x = withCases(1, 12);
        due("cast(0, 4, 3)", x.cast(0, 4, 3), NOT_POSSIBLE);
        long[] before = counts(x);
        due("cast(0, 4, 99)", x.cast(0, 4, 99), NOT_POSSIBLE);
        unchanged(x, before);
        due("cast(0, 4, 2)", x.cast(0, 4, 2), 2);
        due("count(2)", x.count(2), 0);
        due("count(14)", x.count(14), 3);
        due("cast(0, 4, 98), full before metal", x.cast(0, 4, 98), FULL);
        due("undo()", x.undo(), 2);
        due("pieces(0, 4)", x.pieces(0, 4), 0);
        due("count(8)", x.count(8), 0);
    }

    private static void castFount() {
        TypeWorkshop x = withCases(1, 117);
        due("castFount(-1, 0)", x.castFount(-1, 0), UNKNOWN);
        due("castFount(1, 1)", x.castFount(1, 1), UNKNOWN);
        for (int count : new int[] {MIN, -1, 0, 10, MAX}) {
            due("castFount(0, " + count + ")", x.castFount(0, count), BAD_VALUE);
        }
        due("castFount(0, 2)", x.castFount(0, 2), NOT_POSSIBLE);
        due("count(14)", x.count(14), 2);
        due("castFount(0, 1)", x.castFount(0, 1), 32);
        due("count(14)", x.count(14), 3);
        due("count(2)", x.count(2), 1);
        due("count(3)", x.count(3), 116);
        due("count(8)", x.count(8), 32);
        for (int sort = 0; sort < 29; sort++) {
            due("pieces(0, " + sort + ")", x.pieces(0, sort), sort < 26 ? 1 : 2);
        }
        x = withCases(1, 40000);
        due("cast(0, 25, 90)", x.cast(0, 25, 90), 90);
        due("cast(0, 28, 81)", x.cast(0, 28, 81), 81);
        due("castFount(0, 9)", x.castFount(0, 9), 288);
        due("pieces(0, 25)", x.pieces(0, 25), 99);
        due("pieces(0, 28)", x.pieces(0, 28), 99);
        due("castFount(0, 1)", x.castFount(0, 1), FULL);
        due("undo()", x.undo(), 4);
        due("melt(0, 25, 90)", x.melt(0, 25, 90), 40000 - 81);
        due("cast(0, 28, 1)", x.cast(0, 28, 1), 82);
        due("castFount(0, 9), spaces come twice", x.castFount(0, 9), FULL);
        due("castFount(0, 8)", x.castFount(0, 8), 256);
        x = withCases(1, 200);
        x.cast(0, 28, 98);
        due("castFount(0, 1), full before metal", x.castFount(0, 1), FULL);
    }

    private static void melt() {
        TypeWorkshop x = withCases(2, 1000);
        x.cast(1, 4, 10);
        due("melt(-1, 4, 0)", x.melt(-1, 4, 0), UNKNOWN);
        due("melt(2, 4, 1)", x.melt(2, 4, 1), UNKNOWN);
        due("melt(1, -1, 0)", x.melt(1, -1, 0), UNKNOWN);
        due("melt(1, 29, 1)", x.melt(1, 29, 1), UNKNOWN);
        for (int count : new int[] {MIN, -1, 0, 100, MAX}) {
            due("melt(1, 4, " + count + ")", x.melt(1, 4, count), BAD_VALUE);
        }
        due("melt(1, 4, 11)", x.melt(1, 4, 11), NOT_POSSIBLE);
        due("melt(0, 4, 1)", x.melt(0, 4, 1), NOT_POSSIBLE);
        due("count(14)", x.count(14), 4);
        due("melt(1, 4, 3)", x.melt(1, 4, 3), 958);
        due("count(9)", x.count(9), 3);
        due("count(7)", x.count(7), 0);
        due("pieces(1, 4)", x.pieces(1, 4), 7);
        due("melt(1, 4, 7)", x.melt(1, 4, 7), 1000);
        due("count(9)", x.count(9), 10);
        due("count(8)", x.count(8), 10);
        due("undo()", x.undo(), 4);
        due("count(9)", x.count(9), 3);
        x.cast(0, 27, 99);
        due("melt(0, 27, 99)", x.melt(0, 27, 99), 958);
        x = withCases(1, 99999);
        due("cast(0, 0, 50)", x.cast(0, 0, 50), 50);
        due("buy(101)", x.buy(101), 100000);
        due("melt brings the pot above what buying can", x.melt(0, 0, 50), 100100);
        due("buy(1)", x.buy(1), FULL);
    }

    /** Brings 2 pieces of the letter d to the box by each forme of 16 that is printed and distributed. */
    private static void wear(TypeWorkshop x, int formes) {
        for (int i = 0; i < formes; i++) {
            int job = order(x, "dddddddddddddddd", 0, 80, 0);
            due("set", x.set(job), 0);
            due("print", x.print(job), 0);
            due("distribute", x.distribute(job), 2);
        }
    }

    private static void meltBox() {
        TypeWorkshop x = withCases(1, 1000);
        due("meltBox()", x.meltBox(), NONE);
        due("count(14)", x.count(14), 2);
        x.cast(0, 3, 40);
        wear(x, 4);
        due("pieces(-1, 3)", x.pieces(-1, 3), 8);
        due("count(5)", x.count(5), 40);
        due("meltBox(), no dross below 50", x.meltBox(), 40);
        due("count(7)", x.count(7), 0);
        due("count(14)", x.count(14), 5);
        due("undo()", x.undo(), 4);
        wear(x, 1);
        due("meltBox(), dross of 50", x.meltBox(), 49);
        due("count(7)", x.count(7), 1);
        due("count(2)", x.count(2), 849);
        wear(x, 5);
        due("count(10)", x.count(10), 10);
        due("count(5)", x.count(5), 50);
        due("meltBox()", x.meltBox(), 49);
        due("count(2)", x.count(2), 898);
        due("count(5)", x.count(5), 0);
        due("count(10)", x.count(10), 0);
        due("count(7)", x.count(7), 2);
        due("count(9)", x.count(9), 20);
        due("meltBox()", x.meltBox(), NONE);
        due("undo()", x.undo(), 4);
        due("pieces(-1, 3)", x.pieces(-1, 3), 10);
        due("count(7)", x.count(7), 1);
        x = withCases(1, 1000);
        x.cast(0, 3, 40);
        wear(x, 11);
        due("count(5)", x.count(5), 110);
        due("meltBox(), dross of 110", x.meltBox(), 108);
    }

    private static void type() {
        TypeWorkshop x = new TypeWorkshop();
        char[] any = {0, 'a', '\n', 127, 255, 256, 0xd800, 0xffff};
        for (int i = 0; i < 60; i++) {
            due("type", x.type(any[i % any.length]), i + 1);
        }
        due("type('a')", x.type('a'), FULL);
        due("type((char) 0)", x.type((char) 0), FULL);
        due("count(15)", x.count(15), 60);
        due("count(14), typing is no act", x.count(14), 0);
    }

    private static void clearText() {
        TypeWorkshop x = new TypeWorkshop();
        due("clearText()", x.clearText(), 0);
        write(x, "abc");
        due("clearText()", x.clearText(), 3);
        due("clearText()", x.clearText(), 0);
        due("count(15)", x.count(15), 0);
        for (int i = 0; i < 61; i++) {
            x.type('q');
        }
        due("clearText()", x.clearText(), 60);
        due("type('a')", x.type('a'), 1);
        due("count(14)", x.count(14), 0);
        due("undo()", x.undo(), NONE);
    }

    private static void fault(String text, int at) {
        TypeWorkshop x = withCases(1, 0);
        due("order of <" + text + ">", order(x, text, 0, 150, 0), -100 - at);
        due("count(1)", x.count(1), 0);
        due("count(14)", x.count(14), 1);
    }

    private static void order() {
        fault("", 0);
        fault(" ", 0);
        fault("/", 0);
        fault("A", 0);
        fault("a ", 2);
        fault("a/", 2);
        fault("a  b", 2);
        fault("a //b", 2);
        fault("a/ b", 2);
        fault("a /b", 2);
        fault("ab{", 2);
        fault("ab`", 2);
        fault("ab." , 2);
        fault("ab c0/", 4);
        fault("a" + (char) ('a' + 256), 1);
        fault("a b c d e f g h i j k l m n o p q r s t u v w x y z a b c d/", 60);
        TypeWorkshop x = withCases(2, 0);
        write(x, "");
        for (int wrong : new int[] {MIN, -1, 2, MAX}) {
            due("order(" + wrong + ", 0, 0)", x.order(wrong, 0, 0), UNKNOWN);
        }
        for (int wrong : new int[] {MIN, -1, 0, 9, 151, MAX}) {
            due("order(0, " + wrong + ", 0)", x.order(0, wrong, 0), BAD_VALUE);
        }
        for (int wrong : new int[] {MIN, -1, 10000, MAX}) {
            due("order(0, 10, " + wrong + ")", x.order(0, 10, wrong), BAD_VALUE);
        }
        due("order of the empty text", x.order(0, 10, 0), -100);
        due("order(1, 10, 0)", order(x, "aaaaa", 1, 10, 0), 0);
        due("the text stays", x.count(15), 5);
        due("order(1, 150, 9999) again", x.order(1, 150, 9999), 1);
        due("one letter too many", order(x, "aaaaaf", 1, 10, 0), NOT_POSSIBLE);
        due("a gap of 1", order(x, "aa af b", 1, 13, 0), 2);
        due("no room for a gap", order(x, "aa af b", 1, 12, 0), NOT_POSSIBLE);
        due("no room in the last line", order(x, "a/a/aa aaa", 1, 10, 0), NOT_POSSIBLE);
        due("no room in the first line", order(x, "aa aaa/a/a", 1, 10, 0), NOT_POSSIBLE);
        due("thirty lines", order(x, "a/a/a/a/a/a/a/a/a/a/a/a/a/a/a/a/a/a/a/a/a/a/a/a/a/a/a/a/a/a", 0, 10, 0), 3);
        due("thirty words", order(x, "a a a a a a a a a a a a a a a a a a a a a a a a a a a a a a", 0, 89, 0), 4);
        due("lines of thirty", x.job(3, 4), 30);
        due("gaps of thirty lines", x.job(3, 6), 30);
        due("gaps of thirty words", x.job(4, 6), 29);
        for (int job = 5; job < 12; job++) {
            due("order", order(x, "abc", 0, 12, job), job);
        }
        due("one too many", x.order(0, 12, 0), FULL);
        due("one that fits", x.order(0, 10, 0), FULL);
        due("too wide before full", order(x, "aaaaaa", 0, 10, 0), NOT_POSSIBLE);
        due("fault before full", order(x, "aaaaaa ", 0, 10, 0), -107);
        due("count(1)", x.count(1), 12);
        due("undo()", x.undo(), 4);
        due("count(1)", x.count(1), 11);
        due("text of a job is its own", x.job(10, 5), 3);
        x.undo();
        write(x, "abc/de");
        due("what was typed ahead of clearText() is gone", order(x, "abc", 0, 12, 0), 10);
        due("lines", x.job(10, 4), 1);
    }

    private static void set() {
        TypeWorkshop x = withCases(3, 5000);
        for (int wrong : WRONG_BOTH_ENDS) {
            due("set(" + wrong + ")", x.set(wrong), UNKNOWN);
        }
        due("set(0)", x.set(0), UNKNOWN);
        x.cast(0, 0, 1);
        x.cast(1, 0, 2);
        x.cast(2, 0, 4);
        x.cast(2, 26, 1);
        x.cast(0, 26, 1);
        x.cast(1, 28, 1);
        due("order", order(x, "aaaaa a", 1, 22, 0), 0);
        due("missing 1 wide", x.set(0), NOT_POSSIBLE);
        x.cast(0, 28, 1);
        due("count(14)", x.count(14), 5);
        due("set(0)", x.set(0), 1 + 3 + 2 + 1);
        due("own case first", x.taken(0, 1, 0), 2);
        due("then the first other", x.taken(0, 0, 0), 1);
        due("then the next", x.taken(0, 2, 0), 3);
        due("left of it", x.pieces(2, 0), 1);
        due("taken(0, 0, 26)", x.taken(0, 0, 26), 1);
        due("taken(0, 2, 26)", x.taken(0, 2, 26), 1);
        due("taken(0, 1, 28)", x.taken(0, 1, 28), 1);
        due("taken(0, 0, 28)", x.taken(0, 0, 28), 1);
        due("state", x.job(0, 3), 1);
        due("set(0) again", x.set(0), NOT_POSSIBLE);
        due("undo()", x.undo(), 4);
        due("state", x.job(0, 3), 0);
        due("pieces(2, 0)", x.pieces(2, 0), 4);
        due("melt(2, 0, 2)", x.melt(2, 0, 2) > 0 ? 1 : 0, 1);
        due("a letter is missing", x.set(0), NOT_POSSIBLE);
        due("count(14)", x.count(14), 5);
        x.undo();
        x.set(0);
        x.print(0);
        due("set of one printed", x.set(0), NOT_POSSIBLE);
        x.distribute(0);
        due("set of one distributed", x.set(0), NOT_POSSIBLE);
        x.restore();
        due("order", x.order(1, 22, 0), 1);
        x.cancel(1);
        due("set of one cancelled", x.set(1), NOT_POSSIBLE);
    }

    private static void castMissing() {
        TypeWorkshop x = withCases(2, 60);
        due("castMissing(0)", x.castMissing(0), UNKNOWN);
        due("castMissing(-1)", x.castMissing(-1), UNKNOWN);
        x.cast(0, 4, 1);
        x.cast(0, 27, 1);
        due("order", order(x, "ee ee", 1, 30, 0), 0);
        due("castMissing(0)", x.castMissing(0), 3 + 4);
        due("count(14)", x.count(14), 5);
        due("count(2)", x.count(2), 60 - 8 - 22);
        due("count(8)", x.count(8), 9);
        due("into its case", x.pieces(1, 4), 3);
        due("1 wide ones", x.pieces(1, 28), 4);
        due("pieces(0, 4)", x.pieces(0, 4), 1);
        due("castMissing(0)", x.castMissing(0), NONE);
        due("set(0)", x.set(0), 2);
        due("castMissing of one set", x.castMissing(0), NOT_POSSIBLE);
        due("undo()", x.undo(), 4);
        due("undo() takes all back", x.undo(), 3);
        due("pieces(1, 4)", x.pieces(1, 4), 0);
        due("count(2)", x.count(2), 52);
        x = withCases(2, 30);
        due("order", order(x, "e", 0, 106, 0), 0);
        due("full before metal", x.castMissing(0), FULL);
        due("order", order(x, "e", 0, 105, 0), 1);
        due("not so much metal", x.castMissing(1), NOT_POSSIBLE);
        x.buy(74);
        due("still 1 too few", x.castMissing(1), NOT_POSSIBLE);
        x.buy(1);
        due("castMissing(1)", x.castMissing(1), 100);
        due("pot is empty", x.count(2), 0);
        x.buy(20000);
        due("7 1 wide ones", x.castMissing(0), FULL);
        x.cancel(0);
        due("castMissing of one cancelled", x.castMissing(0), NOT_POSSIBLE);
        x.set(1);
        x.print(1);
        due("castMissing of one printed", x.castMissing(1), NOT_POSSIBLE);
    }

    private static void print() {
        TypeWorkshop x = withCases(1, 2000);
        due("print(0)", x.print(0), UNKNOWN);
        due("print(-1)", x.print(-1), UNKNOWN);
        x.castFount(0, 5);
        for (int day = 0; day < 4; day++) {
            due("order", order(x, "abc", 0, 12, 10 * day), day);
        }
        due("print of one ordered", x.print(0), NOT_POSSIBLE);
        for (int job = 0; job < 4; job++) {
            due("set", x.set(job), 0);
        }
        x.pass(20);
        due("late", x.print(0), 20);
        due("an act", x.undo(), 4);
        due("state", x.job(0, 3), 1);
        due("late", x.print(0), 20);
        due("late", x.print(1), 10);
        due("on its day", x.print(2), 0);
        due("early", x.print(3), 0);
        due("print again", x.print(3), NOT_POSSIBLE);
        due("count(14)", x.count(14), 5);
        due("count(12)", x.count(12), 30);
        due("state", x.job(1, 3), 2);
        due("day", x.job(1, 9), 20);
        due("late by", x.job(1, 10), 10);
        due("the forme stays, 3 letters, a 2 and a 1 wide space", x.job(1, 7), 3 + 2);
        x.distribute(1);
        due("print of one distributed", x.print(1), NOT_POSSIBLE);
        due("count(12)", x.count(12), 30);
        x.undo();
        x.undo();
        x.undo();
        x.undo();
        due("undo()", x.undo(), 0);
        due("count(12)", x.count(12), 0);
        due("day", x.job(0, 9), NONE);
        due("state", x.job(0, 3), 1);
    }

    private static void distribute() {
        TypeWorkshop x = withCases(2, 5000);
        due("distribute(0)", x.distribute(0), UNKNOWN);
        due("distribute(-1)", x.distribute(-1), UNKNOWN);
        x.cast(0, 0, 8);
        x.cast(1, 0, 15);
        x.cast(0, 1, 7);
        due("order", order(x, "aaaaaaaaaaaaaaaaaaaaaaabbbbbbb", 0, 67, 0), 0);
        due("distribute of one ordered", x.distribute(0), NOT_POSSIBLE);
        due("set(0)", x.set(0), 15);
        due("distribute of one set", x.distribute(0), NOT_POSSIBLE);
        x.print(0);
        due("one of 8, one of 15, none of 7", x.distribute(0), 2);
        due("pieces(0, 0)", x.pieces(0, 0), 7);
        due("pieces(1, 0)", x.pieces(1, 0), 14);
        due("pieces(0, 1)", x.pieces(0, 1), 7);
        due("pieces(-1, 0)", x.pieces(-1, 0), 2);
        due("state", x.job(0, 3), 3);
        due("printed on", x.job(0, 9), 0);
        due("distribute again", x.distribute(0), NOT_POSSIBLE);
        due("undo()", x.undo(), 4);
        due("pieces(-1, 0)", x.pieces(-1, 0), 0);
        x.cast(1, 0, 92);
        due("one finds no room besides", x.distribute(0), 1 + 1 + 7);
        due("pieces(1, 0)", x.pieces(1, 0), 99);
        due("pieces(0, 0)", x.pieces(0, 0), 7);
        due("pieces(-1, 0)", x.pieces(-1, 0), 9);
        due("count(10)", x.count(10), 9);
    }

    private static void cancel() {
        TypeWorkshop x = withCases(2, 5000);
        due("cancel(0)", x.cancel(0), UNKNOWN);
        due("cancel(-1)", x.cancel(-1), UNKNOWN);
        x.cast(0, 0, 8);
        x.cast(1, 0, 15);
        order(x, "aaaaaaaaaaaaaaaaaaaaaaa", 0, 46, 0);
        order(x, "z", 0, 46, 0);
        due("of one ordered nothing goes back", x.cancel(1), 0);
        due("state", x.job(1, 3), 4);
        due("cancel again", x.cancel(1), NOT_POSSIBLE);
        due("set(0)", x.set(0), 15);
        due("none is worn", x.cancel(0), 23);
        due("pieces(0, 0)", x.pieces(0, 0), 8);
        due("pieces(1, 0)", x.pieces(1, 0), 15);
        due("count(10)", x.count(10), 0);
        due("undo()", x.undo(), 4);
        x.cast(1, 0, 86);
        due("some find no room", x.cancel(0), 8 + 13);
        due("pieces(1, 0)", x.pieces(1, 0), 99);
        due("pieces(-1, 0)", x.pieces(-1, 0), 2);
        due("forme", x.job(0, 7), 0);
        x.undo();
        x.print(0);
        due("cancel of one printed", x.cancel(0), NOT_POSSIBLE);
        x.distribute(0);
        due("cancel of one distributed", x.cancel(0), NOT_POSSIBLE);
        due("count(14)", x.count(14), 5);
    }

    private static void pass() {
        TypeWorkshop x = new TypeWorkshop();
        for (int wrong : new int[] {MIN, -1, 0, 31, MAX}) {
            due("pass(" + wrong + ")", x.pass(wrong), BAD_VALUE);
        }
        due("pass(1)", x.pass(1), 1);
        due("pass(30)", x.pass(30), 31);
        due("count(11)", x.count(11), 31);
        due("count(14)", x.count(14), 2);
        due("undo()", x.undo(), 1);
        due("count(11)", x.count(11), 1);
    }

    private static void undo() {
        TypeWorkshop x = new TypeWorkshop();
        due("undo()", x.undo(), NONE);
        for (int day = 1; day <= 7; day++) {
            x.pass(1);
            due("count(14)", x.count(14), Math.min(day, 5));
        }
        write(x, "abc");
        for (int left = 4; left >= 0; left--) {
            due("undo()", x.undo(), left);
            due("count(11)", x.count(11), 2 + left);
            due("count(14)", x.count(14), left);
        }
        due("undo()", x.undo(), NONE);
        due("count(11)", x.count(11), 2);
        due("the typed text is no part of a state", x.count(15), 3);
        x.addCase();
        x.buy(500);
        x.castFount(0, 1);
        order(x, "abc", 0, 20, 1);
        x.set(0);
        due("undo()", x.undo(), 4);
        due("undo()", x.undo(), 3);
        due("job(0, 0)", x.job(0, 0), UNKNOWN);
        due("need(0, 0)", x.need(0, 0), UNKNOWN);
        due("undo()", x.undo(), 2);
        due("pieces(0, 0)", x.pieces(0, 0), 0);
        due("count(8)", x.count(8), 0);
        due("undo()", x.undo(), 1);
        due("count(6)", x.count(6), 0);
        due("undo()", x.undo(), 0);
        due("count(0)", x.count(0), 0);
        due("count(15)", x.count(15), 3);
    }

    private static void keep() {
        TypeWorkshop x = withCases(1, 500);
        x.castFount(0, 2);
        due("keep()", x.keep(), 0);
        due("no act", x.count(14), 3);
        order(x, "abc", 0, 20, 1);
        order(x, "cba", 0, 20, 1);
        due("keep() in place of the first", x.keep(), 2);
        due("no act", x.count(14), 5);
        x.set(0);
        x.pass(3);
        due("restore()", x.restore(), 2);
        due("state", x.job(0, 3), 0);
        due("pieces(0, 0)", x.pieces(0, 0), 2);
        due("undo() leaves the snapshot", x.undo(), 4);
        due("state", x.job(0, 3), 1);
        x.cancel(0);
        due("restore()", x.restore(), 2);
        due("state", x.job(0, 3), 0);
    }

    private static void restore() {
        TypeWorkshop x = withCases(1, 500);
        due("restore()", x.restore(), NONE);
        due("count(14)", x.count(14), 2);
        order(x, "abc", 0, 20, 1);
        x.keep();
        x.castFount(0, 3);
        x.set(0);
        write(x, "ab");
        due("restore()", x.restore(), 1);
        due("an act", x.count(14), 5);
        due("count(8)", x.count(8), 0);
        due("count(15)", x.count(15), 2);
        due("state", x.job(0, 3), 0);
        due("need is that of its text", x.need(0, 2), 1);
        due("undo()", x.undo(), 4);
        due("state", x.job(0, 3), 1);
        due("pieces(0, 0)", x.pieces(0, 0), 2);
        due("it stays", x.restore(), 1);
        due("state", x.job(0, 3), 0);
        due("it stays", x.restore(), 1);
        due("count(14)", x.count(14), 5);
    }

    private static void pieces() {
        TypeWorkshop x = withCases(2, 500);
        x.cast(1, 28, 7);
        due("pieces(1, 28)", x.pieces(1, 28), 7);
        due("pieces(1, 27)", x.pieces(1, 27), 0);
        due("pieces(0, 28)", x.pieces(0, 28), 0);
        due("pieces(-1, 28)", x.pieces(-1, 28), 0);
        for (int wrong : new int[] {MIN, -2, 2, 6, MAX}) {
            due("pieces(" + wrong + ", 0)", x.pieces(wrong, 0), UNKNOWN);
        }
        for (int wrong : new int[] {MIN, -1, 29, MAX}) {
            due("pieces(0, " + wrong + ")", x.pieces(0, wrong), UNKNOWN);
            due("pieces(-1, " + wrong + ")", x.pieces(-1, wrong), UNKNOWN);
        }
        due("count(14)", x.count(14), 4);
    }

    private static void told(TypeWorkshop x, int job, int... want) {
        for (int what = 0; what < want.length; what++) {
            due("job(" + job + ", " + what + ")", x.job(job, what), want[what]);
        }
    }

    private static void job() {
        TypeWorkshop x = withCases(2, 2000);
        x.cast(0, 26, 1);
        x.cast(0, 27, 10);
        x.castFount(1, 5);
        due("order", order(x, "abc d/e/fg a a", 0, 20, 7), 0);
        told(x, 0, 0, 20, 7, 0, 3, 9, 4, 0, 0, NONE, NONE);
        for (int wrong : new int[] {MIN, -1, 11, MAX}) {
            due("job(0, " + wrong + ")", x.job(0, wrong), BAD_VALUE);
            due("job(1, " + wrong + ")", x.job(1, wrong), UNKNOWN);
            due("job(-1, " + wrong + ")", x.job(-1, wrong), UNKNOWN);
        }
        // The gaps are 6, 14, 6 and 5 wide: 4 2, 4 4 4 2, 4 2, 4 1.
        due("set(0)", x.set(0), 9 + 5 + 1);
        told(x, 0, 0, 20, 7, 1, 3, 9, 4, 9 + 6 + 3 + 1, 15, NONE, NONE);
        x.pass(9);
        x.print(0);
        told(x, 0, 0, 20, 7, 2, 3, 9, 4, 19, 15, 9, 2);
        x.pass(9);
        x.distribute(0);
        told(x, 0, 0, 20, 7, 3, 3, 9, 4, 0, 0, 9, 2);
        due("order", order(x, "z", 1, 150, 9999), 1);
        x.set(1);
        x.cancel(1);
        told(x, 1, 1, 150, 9999, 4, 1, 1, 1, 0, 0, NONE, NONE);
    }

    private static void need() {
        TypeWorkshop x = withCases(2, 5000);
        order(x, "ab ba/c", 0, 30, 0);
        due("need(0, 0)", x.need(0, 0), 2);
        due("need(0, 1)", x.need(0, 1), 2);
        due("need(0, 2)", x.need(0, 2), 1);
        due("need(0, 3)", x.need(0, 3), 0);
        // The gaps are 20 and 26 wide.
        due("without spaces", x.need(0, 28), 46);
        due("need(0, 27)", x.need(0, 27), 0);
        x.cast(1, 27, 9);
        due("need(0, 27)", x.need(0, 27), 9);
        due("need(0, 28)", x.need(0, 28), 28);
        x.cast(0, 26, 6);
        due("need(0, 26)", x.need(0, 26), 6);
        due("need(0, 27)", x.need(0, 27), 9);
        due("need(0, 28)", x.need(0, 28), 4);
        for (int wrong : new int[] {MIN, -1, 29, MAX}) {
            due("need(0, " + wrong + ")", x.need(0, wrong), UNKNOWN);
            due("need(" + (wrong == 29 ? 1 : wrong) + ", 0)", x.need(wrong == 29 ? 1 : wrong, 0), UNKNOWN);
        }
        x.castMissing(0);
        due("set(0)", x.set(0), 9);
        due("as if its own pieces were there", x.need(0, 26), 6);
        due("need(0, 27)", x.need(0, 27), 9);
        due("need(0, 28)", x.need(0, 28), 4);
        x.cast(1, 26, 2);
        due("and those that came since", x.need(0, 26), 8);
        due("need(0, 27)", x.need(0, 27), 7);
        due("need(0, 28)", x.need(0, 28), 0);
        x.print(0);
        due("of one printed, too", x.need(0, 26), 8);
        due("need(0, 27)", x.need(0, 27), 7);
        x.distribute(0);
        due("of one distributed", x.need(0, 26), 8);
        due("a worn piece is not there", x.need(0, 27), 7);
        x.melt(0, 26, 6);
        due("need(0, 26)", x.need(0, 26), 2);
        due("need(0, 27)", x.need(0, 27), 8);
        due("need(0, 28)", x.need(0, 28), 22);
        due("need(0, 0)", x.need(0, 0), 2);
    }

    private static void missing() {
        TypeWorkshop x = withCases(3, 5000);
        order(x, "aaaa a", 0, 21, 0);
        due("missing(0, 0)", x.missing(0, 0), 5);
        due("missing(0, 28)", x.missing(0, 28), 11);
        due("never missing", x.missing(0, 26), 0);
        due("never missing", x.missing(0, 27), 0);
        due("not needed", x.missing(0, 1), 0);
        x.cast(1, 0, 2);
        x.cast(2, 0, 1);
        x.cast(2, 26, 1);
        x.cast(1, 28, 3);
        due("all cases together", x.missing(0, 0), 2);
        due("missing(0, 28)", x.missing(0, 28), 4);
        x.cast(0, 0, 9);
        x.cast(0, 28, 4);
        due("not below 0", x.missing(0, 0), 0);
        due("missing(0, 28)", x.missing(0, 28), 0);
        x.set(0);
        due("of one set its own pieces are there", x.missing(0, 28), 0);
        due("another one", order(x, "a", 0, 14, 0), 1);
        due("of another they are not", x.missing(1, 28), 12);
        due("what is left over", x.missing(1, 0), 0);
        for (int wrong : new int[] {MIN, -1, 29, MAX}) {
            due("missing(0, " + wrong + ")", x.missing(0, wrong), UNKNOWN);
            due("missing(" + wrong + ", 0)", x.missing(wrong, 0), UNKNOWN);
        }
        due("missing(2, 0)", x.missing(2, 0), UNKNOWN);
        x.print(0);
        due("missing(0, 28)", x.missing(0, 28), 0);
        x.distribute(0);
        due("missing(0, 28)", x.missing(0, 28), 0);
        x.melt(0, 28, 4);
        due("of one distributed", x.missing(0, 28), 4);
    }

    private static void taken() {
        TypeWorkshop x = withCases(2, 5000);
        x.cast(0, 0, 1);
        x.cast(1, 0, 3);
        order(x, "aaa", 0, 10, 0);
        due("of one ordered", x.taken(0, 0, 0), 0);
        x.cast(0, 26, 1);
        x.set(0);
        due("taken(0, 0, 0)", x.taken(0, 0, 0), 1);
        due("taken(0, 1, 0)", x.taken(0, 1, 0), 2);
        due("taken(0, 0, 26)", x.taken(0, 0, 26), 1);
        due("taken(0, 1, 26)", x.taken(0, 1, 26), 0);
        for (int wrong : new int[] {MIN, -1, 29, MAX}) {
            due("taken(0, 0, " + wrong + ")", x.taken(0, 0, wrong), UNKNOWN);
            due("taken(0, " + wrong + ", 0)", x.taken(0, wrong, 0), UNKNOWN);
            due("taken(" + wrong + ", 0, 0)", x.taken(wrong, 0, 0), UNKNOWN);
        }
        due("taken(0, 2, 0)", x.taken(0, 2, 0), UNKNOWN);
        due("taken(1, 0, 0)", x.taken(1, 0, 0), UNKNOWN);
        x.print(0);
        due("of one printed", x.taken(0, 1, 0), 2);
        x.distribute(0);
        due("of one distributed", x.taken(0, 1, 0), 0);
    }

    private static void gap() {
        TypeWorkshop x = withCases(1, 0);
        order(x, "ab c de f/ee/e e e/ffff fff", 0, 41, 0);
        // The lines leave 19 in 3 gaps, 29 in 1, 23 in 2 and 27 in 1.
        due("gap(0, 0, 0)", x.gap(0, 0, 0), 7);
        due("gap(0, 0, 1)", x.gap(0, 0, 1), 6);
        due("gap(0, 0, 2)", x.gap(0, 0, 2), 6);
        due("gap(0, 0, 3)", x.gap(0, 0, 3), NONE);
        due("gap(0, 1, 0)", x.gap(0, 1, 0), 29);
        due("gap(0, 1, 1)", x.gap(0, 1, 1), NONE);
        due("gap(0, 2, 0)", x.gap(0, 2, 0), 12);
        due("gap(0, 2, 1)", x.gap(0, 2, 1), 11);
        due("gap(0, 2, 2)", x.gap(0, 2, 2), NONE);
        due("gap(0, 3, 0)", x.gap(0, 3, 0), 27);
        due("gap(0, 3, 1)", x.gap(0, 3, 1), NONE);
        for (int wrong : new int[] {MIN, -1, 4, 30, MAX}) {
            due("gap(0, " + wrong + ", 0)", x.gap(0, wrong, 0), NONE);
            due("gap(0, 0, " + wrong + ")", x.gap(0, 0, wrong), NONE);
            due("gap(0, 3, " + wrong + ")", x.gap(0, 3, wrong), NONE);
            due("gap(" + wrong + ", 0, 0)", x.gap(wrong, 0, 0), UNKNOWN);
            due("gap(" + wrong + ", 9, 9)", x.gap(wrong, 9, 9), UNKNOWN);
        }
        due("gap(1, 0, 0)", x.gap(1, 0, 0), UNKNOWN);
        order(x, "ee a/aa aa a", 0, 14, 0);
        due("a line with no rest but for a gap", x.order(0, 15, 0), 1);
        due("gap(1, 0, 0)", x.gap(1, 0, 0), 1);
        due("gap(1, 1, 0)", x.gap(1, 1, 0), 3);
        due("gap(1, 1, 1)", x.gap(1, 1, 1), 2);
        order(x, "eea", 0, 14, 0);
        due("a gap of nothing", x.gap(2, 0, 0), 0);
    }

    private static void pieceAt() {
        TypeWorkshop x = withCases(1, 5000);
        x.castFount(0, 9);
        x.melt(0, 26, 15);
        x.melt(0, 27, 16);
        order(x, "ab c de f/ee/e e e", 0, 41, 0);
        for (int wrong : WRONG_BOTH_ENDS) {
            due("pieceAt(" + wrong + ", 0, 0)", x.pieceAt(wrong, 0, 0), UNKNOWN);
        }
        due("pieceAt(1, 0, 0)", x.pieceAt(1, 0, 0), UNKNOWN);
        due("of one ordered", x.pieceAt(0, 0, 0), NOT_POSSIBLE);
        due("of one ordered, no such line", x.pieceAt(0, 9, 0), NOT_POSSIBLE);
        // The gaps are 7, 6 and 6, then 29, then 12 and 11 wide; there are 3 fours, 2 twos and 18 ones.
        due("1 wide ones are missing", x.set(0), NOT_POSSIBLE);
        x.castMissing(0);
        due("set(0)", x.set(0), 0);
        lineIs(x, 0, 0, "ab421c42de4" + "11f");
        lineIs(x, 0, 1, "ee" + "1".repeat(29));
        lineIs(x, 0, 2, "e" + "1".repeat(12) + "e" + "1".repeat(11) + "e");
        due("pieceAt(0, 0, 2)", x.pieceAt(0, 0, 2), '4');
        due("pieceAt(0, 0, 13)", x.pieceAt(0, 0, 13), 'f');
        due("pieceAt(0, 0, 14)", x.pieceAt(0, 0, 14), NONE);
        due("pieceAt(0, 1, 30)", x.pieceAt(0, 1, 30), '1');
        due("pieceAt(0, 1, 31)", x.pieceAt(0, 1, 31), NONE);
        for (int wrong : WRONG_BOTH_ENDS) {
            due("pieceAt(0, " + wrong + ", 0)", x.pieceAt(0, wrong, 0), NONE);
            due("pieceAt(0, 0, " + wrong + ")", x.pieceAt(0, 0, wrong), NONE);
        }
        due("pieceAt(0, 3, 0)", x.pieceAt(0, 3, 0), NONE);
        x.cast(0, 26, 50);
        x.cast(0, 27, 50);
        lineIs(x, 0, 0, "ab421c42de4" + "11f");
        lineIs(x, 0, 1, "ee" + "1".repeat(29));
        x.print(0);
        lineIs(x, 0, 0, "ab421c42de4" + "11f");
        x.distribute(0);
        due("of one distributed", x.pieceAt(0, 0, 0), NOT_POSSIBLE);
        order(x, "ab/ee", 0, 12, 0);
        x.castMissing(1);
        due("set(1)", x.set(1), 0);
        lineIs(x, 1, 0, "ab421");
        lineIs(x, 1, 1, "ee");
        x.cancel(1);
        due("of one cancelled", x.pieceAt(1, 0, 0), NOT_POSSIBLE);
    }

    private static void urgent() {
        TypeWorkshop x = withCases(1, 5000);
        x.castFount(0, 9);
        due("urgent()", x.urgent(), NONE);
        order(x, "a", 0, 10, 50);
        due("urgent()", x.urgent(), 0);
        x.order(0, 10, 40);
        x.order(0, 10, 40);
        x.order(0, 10, 9999);
        due("the lowest of several", x.urgent(), 1);
        x.set(1);
        due("one that is set", x.urgent(), 1);
        x.print(1);
        due("not one that is printed", x.urgent(), 2);
        x.cancel(2);
        due("not one that is cancelled", x.urgent(), 0);
        x.cancel(0);
        due("urgent()", x.urgent(), 3);
        x.set(3);
        x.print(3);
        due("urgent()", x.urgent(), NONE);
        x.distribute(3);
        due("urgent()", x.urgent(), NONE);
        x.order(0, 10, 0);
        x.pass(30);
        due("one that is late", x.urgent(), 4);
    }

    private static void count() {
        TypeWorkshop x = withCases(2, 3000);
        for (int wrong : new int[] {MIN, -1, 16, MAX}) {
            due("count(" + wrong + ")", x.count(wrong), BAD_VALUE);
        }
        x.castFount(0, 9);
        x.castFount(1, 9);
        order(x, "aaaaaaaaaaaaaaaa", 0, 40, 3);
        x.order(1, 40, 5);
        x.order(1, 40, 6);
        x.cast(0, 0, 40);
        x.melt(0, 1, 2);
        due("set(0)", x.set(0), 0);
        x.pass(5);
        int[] want = {2, 3, 3000 - 2088 - 80 + 6, 2088 + 80 - 6 - 40, 40, 0, 3000, 0, 288 * 2 + 40, 2, 0, 5, 0, 1, 5, 16};
        for (int what = 0; what < want.length; what++) {
            due("count(" + what + ")", x.count(what), want[what]);
        }
        due("set(1)", x.set(1), 0 + 7);
        due("count(4)", x.count(4), 80);
        x.pass(1);
        due("one that is ordered is late, two that are set", x.count(13), 2);
        x.print(0);
        due("one that is printed is not late any more", x.count(13), 1);
        due("count(12)", x.count(12), 3);
        due("count(4), printed ones, too", x.count(4), 80);
        x.distribute(0);
        due("count(4)", x.count(4), 40);
        due("count(5)", x.count(5), 2 * 2);
        due("count(10)", x.count(10), 2);
        due("meltBox()", x.meltBox(), 4);
        due("count(9)", x.count(9), 4);
        due("count(2)", x.count(2), 3000 - 2088 - 80 + 6 + 4);
        x.pass(30);
        due("count(13)", x.count(13), 2);
        x.cancel(2);
        due("count(13)", x.count(13), 1);
        due("all metal is somewhere", x.count(2) + x.count(3) + x.count(4) + x.count(5) + x.count(7), x.count(6));
    }

    private static void constants() {
        due("UNKNOWN", UNKNOWN, -1);
        due("BAD_VALUE", BAD_VALUE, -2);
        due("FULL", FULL, -3);
        due("NOT_POSSIBLE", NOT_POSSIBLE, -4);
        due("NONE", NONE, -5);
    }

    public static void main(String[] args) {
        part("the constants", PromiseTests::constants);
        part("promise 1", PromiseTests::newObject);
        part("promise 2", PromiseTests::buy);
        part("promise 3", PromiseTests::addCase);
        part("promise 4", PromiseTests::cast);
        part("promise 5", PromiseTests::castFount);
        part("promise 6", PromiseTests::melt);
        part("promise 7", PromiseTests::meltBox);
        part("promise 8", PromiseTests::type);
        part("promise 9", PromiseTests::clearText);
        part("promise 10", PromiseTests::order);
        part("promise 11", PromiseTests::set);
        part("promise 12", PromiseTests::castMissing);
        part("promise 13", PromiseTests::print);
        part("promise 14", PromiseTests::distribute);
        part("promise 15", PromiseTests::cancel);
        part("promise 16", PromiseTests::pass);
        part("promise 17", PromiseTests::undo);
        part("promise 18", PromiseTests::keep);
        part("promise 19", PromiseTests::restore);
        part("promise 20", PromiseTests::pieces);
        part("promise 21", PromiseTests::job);
        part("promise 22", PromiseTests::need);
        part("promise 23", PromiseTests::missing);
        part("promise 24", PromiseTests::taken);
        part("promise 25", PromiseTests::gap);
        part("promise 26", PromiseTests::pieceAt);
        part("promise 27", PromiseTests::urgent);
        part("promise 28", PromiseTests::count);
        Check.end();
    }
}
