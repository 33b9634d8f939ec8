/** For each sentence of a promise that names a boundary case a test of its own, which bears the sentence as its name. */
public final class PromiseEdgeTests extends Bench {
    private static String times(String sign, int count) {
        return sign.repeat(count);
    }

    /** A job of one line with the letter a alone, without any gap to fill. */
    private static int orderAs(TypeWorkshop x, int box, int count, int due) {
        return order(x, times("a", count), box, 2 * count, due);
    }

    // ---- 1 to 3

    private static void withoutCasesAndMetal() {
        TypeWorkshop first = withCases(2, 300);
        first.cast(0, 0, 5);
        first.keep();
        write(first, "abc");
        TypeWorkshop x = new TypeWorkshop();
        for (int what = 0; what <= 15; what++) {
            due("count(" + what + ")", x.count(what), 0);
        }
        due("there is no case", x.cast(0, 0, 1), UNKNOWN);
        due("there is no job", x.job(0, 3), UNKNOWN);
        due("there is no snapshot", x.restore(), NONE);
        due("there is no history", x.undo(), NONE);
        due("the first case", x.addCase(), 0);
        due("it is empty", x.pieces(0, 0), 0);
        due("there is no metal", x.cast(0, 28, 1), NOT_POSSIBLE);
        due("the other object has its own", first.pieces(0, 0), 5);
    }

    private static void buyFrom1To20000() {
        TypeWorkshop x = new TypeWorkshop();
        due("buy(0)", x.buy(0), BAD_VALUE);
        due("buy(-1)", x.buy(-1), BAD_VALUE);
        due("buy(MIN)", x.buy(MIN), BAD_VALUE);
        due("buy(20001)", x.buy(20001), BAD_VALUE);
        due("buy(MAX)", x.buy(MAX), BAD_VALUE);
        due("buy(1)", x.buy(1), 1);
        due("buy(20000)", x.buy(20000), 20001);
    }

    private static void buyUpTo100000() {
        TypeWorkshop x = withCases(0, 80001);
        due("100001", x.buy(20000), FULL);
        due("what was refused is not bought", x.count(6), 80001);
        due("100000", x.buy(19999), 100000);
        due("100001", x.buy(1), FULL);
        due("all that was bought", x.count(6), 100000);
    }

    private static void buyAgainWhatWasSpent() {
        TypeWorkshop x = withCases(1, 100000);
        x.cast(0, 28, 1);
        due("2 more", x.buy(2), FULL);
        due("1 more", x.buy(1), 100000);
        due("all that was bought may be more", x.count(6), 100001);
    }

    private static void addCaseUpTo6() {
        TypeWorkshop x = withCases(5, 0);
        due("the sixth", x.addCase(), 5);
        due("a seventh", x.addCase(), FULL);
        due("again", x.addCase(), FULL);
        x.undo();
        due("the sixth again", x.addCase(), 5);
    }

    private static void addCaseIsEmpty() {
        TypeWorkshop x = withCases(1, 500);
        x.addCase();
        x.cast(1, 0, 9);
        x.undo();
        x.undo();
        due("the case is gone", x.pieces(1, 0), UNKNOWN);
        due("addCase()", x.addCase(), 1);
        for (int sort = 0; sort < 29; sort++) {
            due("pieces(1, " + sort + ")", x.pieces(1, sort), 0);
        }
    }

    // ---- 4 to 7

    private static void castFrom1To99() {
        TypeWorkshop x = withCases(1, 1000);
        for (int wrong : new int[] {MIN, -1, 0, 100, MAX}) {
            due("cast(0, 0, " + wrong + ")", x.cast(0, 0, wrong), BAD_VALUE);
        }
        due("cast(0, 0, 1)", x.cast(0, 0, 1), 1);
        due("cast(0, 5, 99)", x.cast(0, 5, 99), 99);
        due("count(8)", x.count(8), 100);
    }

    private static void castUpTo99() {
        TypeWorkshop x = withCases(1, 1000);
        x.cast(0, 3, 60);
        due("60 and 40", x.cast(0, 3, 40), FULL);
        due("60 and 39", x.cast(0, 3, 39), 99);
        due("99 and 1", x.cast(0, 3, 1), FULL);
        due("99 and 99", x.cast(0, 3, 99), FULL);
        due("another sort", x.cast(0, 8, 1), 1);
    }

    private static void castWithSoMuchMetal() {
        TypeWorkshop x = withCases(1, 59);
        due("10 of 6 wide", x.cast(0, 4, 10), NOT_POSSIBLE);
        due("nothing is taken", x.count(2), 59);
        x.buy(1);
        due("10 of 6 wide", x.cast(0, 4, 10), 10);
        due("all is taken", x.count(2), 0);
        due("1 of 1 wide", x.cast(0, 28, 1), NOT_POSSIBLE);
    }

    private static void castFountFrom1To9() {
        TypeWorkshop x = withCases(1, 5000);
        for (int wrong : new int[] {MIN, -1, 0, 10, 99, MAX}) {
            due("castFount(0, " + wrong + ")", x.castFount(0, wrong), BAD_VALUE);
        }
        due("castFount(0, 1)", x.castFount(0, 1), 26 + 3 * 2);
        due("castFount(0, 9)", x.castFount(0, 9), 26 * 9 + 3 * 18);
    }

    private static void castFountIsTwiceOfSpaces() {
        for (int count = 1; count <= 9; count += 4) {
            TypeWorkshop x = withCases(2, 5000);
            x.castFount(1, count);
            for (int sort = 0; sort < 29; sort++) {
                due("pieces(1, " + sort + ")", x.pieces(1, sort), sort < 26 ? count : 2 * count);
                due("pieces(0, " + sort + ")", x.pieces(0, sort), 0);
            }
        }
    }

    private static void castFountUpTo99OfAnySort() {
        for (int sort = 0; sort < 29; sort++) {
            int comes = sort < 26 ? 4 : 8;
            TypeWorkshop x = withCases(1, 5000);
            x.cast(0, sort, 99 - comes);
            due("99 of " + sort, x.castFount(0, 4), 26 * 4 + 3 * 8);
            x.undo();
            x.cast(0, sort, 1);
            due("100 of " + sort, x.castFount(0, 4), FULL);
        }
    }

    private static void castFountWithSoMuchMetal() {
        TypeWorkshop x = withCases(1, 9 * 116 - 1);
        due("1 too few", x.castFount(0, 9), NOT_POSSIBLE);
        due("no sort is cast", x.count(3), 0);
        x.buy(1);
        due("just enough", x.castFount(0, 9), 288);
        due("all is taken", x.count(2), 0);
        due("one act", x.undo(), 3);
        due("nothing is left of it", x.count(3), 0);
    }

    private static void meltFrom1To99() {
        TypeWorkshop x = withCases(1, 500);
        x.cast(0, 0, 99);
        for (int wrong : new int[] {MIN, -1, 0, 100, MAX}) {
            due("melt(0, 0, " + wrong + ")", x.melt(0, 0, wrong), BAD_VALUE);
        }
        due("melt(0, 0, 99)", x.melt(0, 0, 99), 500);
        x.undo();
        due("melt(0, 0, 1)", x.melt(0, 0, 1), 500 - 196);
    }

    private static void meltSoMany() {
        TypeWorkshop x = withCases(2, 500);
        x.cast(0, 7, 5);
        x.cast(1, 7, 9);
        due("6 of 5", x.melt(0, 7, 6), NOT_POSSIBLE);
        due("5 of 5", x.melt(0, 7, 5), 500 - 9 * 4);
        due("1 of 0", x.melt(0, 7, 1), NOT_POSSIBLE);
        due("the other case keeps its own", x.pieces(1, 7), 9);
    }

    private static void meltBoxThatIsEmpty() {
        TypeWorkshop x = withCases(1, 500);
        due("at first", x.meltBox(), NONE);
        x.cast(0, 0, 8);
        due("pieces of a case are not in it", x.meltBox(), NONE);
        orderAs(x, 0, 8, 0);
        x.set(0);
        due("nor those of a forme", x.meltBox(), NONE);
        x.print(0);
        x.distribute(0);
        due("one piece", x.meltBox(), 2);
        due("what is melted is gone", x.meltBox(), NONE);
        due("pieces that were melted", x.count(9), 1);
        x.undo();
        due("one piece again", x.meltBox(), 2);
    }

    // ---- 8 to 10

    private static void typeAnyCharacter() {
        TypeWorkshop x = new TypeWorkshop();
        char[] any = {0, ' ', '/', 'a', 'A', 127, 128, 255, 256, 0xd800, 0xfffe, 0xffff};
        for (int i = 0; i < any.length; i++) {
            due("type((char) " + (int) any[i] + ")", x.type(any[i]), i + 1);
        }
    }

    private static void typeUpTo60() {
        TypeWorkshop x = new TypeWorkshop();
        write(x, times("a", 59));
        due("the 60th", x.type('a'), 60);
        due("the 61st", x.type('a'), FULL);
        due("again", x.type('a'), FULL);
        x.clearText();
        due("the first", x.type('a'), 1);
    }

    private static void clearTextAnswersTheLengthThatItHad() {
        TypeWorkshop x = new TypeWorkshop();
        due("none", x.clearText(), 0);
        x.type('a');
        due("one", x.clearText(), 1);
        due("none again", x.clearText(), 0);
        for (int i = 0; i < 70; i++) {
            x.type('a');
        }
        due("60, not what was refused", x.clearText(), 60);
        due("count(15)", x.count(15), 0);
    }

    private static void orderDueFrom0To9999() {
        TypeWorkshop x = withCases(1, 0);
        write(x, "a");
        for (int wrong : new int[] {MIN, -1, 10000, MAX}) {
            due("a due day of " + wrong, x.order(0, 10, wrong), BAD_VALUE);
        }
        due("a due day of 0", x.order(0, 10, 0), 0);
        due("a due day of 9999", x.order(0, 10, 9999), 1);
        due("job(1, 2)", x.job(1, 2), 9999);
        x.pass(30);
        due("one that is past already", x.order(0, 10, 29), 2);
    }

    private static void orderMeasureFrom10To150() {
        TypeWorkshop x = withCases(1, 0);
        write(x, "a");
        due("9", x.order(0, 9, 0), BAD_VALUE);
        due("10", x.order(0, 10, 0), 0);
        due("151", x.order(0, 151, 0), BAD_VALUE);
        due("150", x.order(0, 150, 0), 1);
    }

    private static void orderFaults() {
        TypeWorkshop x = withCases(1, 0);
        due("the empty text", x.order(0, 10, 0), -100);
        for (int length = 1; length <= 60; length++) {
            write(x, times("a", length - 1) + "A");
            due("a fault at " + (length - 1), x.order(0, 150, 0), -100 - (length - 1));
            if (length > 1) {
                write(x, times("a", length - 1) + "/");
                due("an end too early at " + length, x.order(0, 150, 0), -100 - length);
            }
            x = withCases(1, 0);
        }
    }

    private static void orderTooWide() {
        TypeWorkshop x = withCases(1, 0);
        due("just as wide", order(x, "aaaaa/aaaa b", 0, 12, 0), 0);
        due("any line", order(x, "aaaaa/aaaa b", 0, 11, 0), NOT_POSSIBLE);
        due("any line", order(x, "aaaa b/aaaaa", 0, 11, 0), NOT_POSSIBLE);
        due("all lines", order(x, "aaaa b/aaaa b", 0, 11, 0), NOT_POSSIBLE);
    }

    private static void orderUpTo12() {
        TypeWorkshop x = withCases(1, 0);
        write(x, "a");
        for (int job = 0; job < 11; job++) {
            x.order(0, 10, 0);
        }
        due("the twelfth", x.order(0, 10, 0), 11);
        due("a thirteenth", x.order(0, 10, 0), FULL);
        x.undo();
        due("the twelfth again", order(x, "b", 0, 10, 0), 11);
        due("its text is the new one", x.need(11, 1), 1);
        due("its text is the new one", x.need(11, 0), 0);
    }

    private static void orderLeavesTheText() {
        TypeWorkshop x = withCases(1, 0);
        due("order", order(x, "abc", 0, 10, 0), 0);
        due("count(15)", x.count(15), 3);
        x.type('d');
        due("order", x.order(0, 20, 0), 1);
        due("job(1, 5)", x.job(1, 5), 4);
        due("job(0, 5)", x.job(0, 5), 3);
    }

    // ---- 11 and 12

    private static void setOfOneOrderedAlone() {
        TypeWorkshop x = withCases(1, 500);
        x.cast(0, 0, 50);
        for (int job = 0; job < 3; job++) {
            orderAs(x, 0, 5, 0);
        }
        due("ordered", x.set(0), 0);
        due("set", x.set(0), NOT_POSSIBLE);
        x.print(0);
        due("printed", x.set(0), NOT_POSSIBLE);
        x.distribute(0);
        due("distributed", x.set(0), NOT_POSSIBLE);
        x.cancel(1);
        due("cancelled", x.set(1), NOT_POSSIBLE);
        due("ordered", x.set(2), 0);
    }

    private static void setIfNoSortIsMissing() {
        for (int sort = 0; sort < 26; sort++) {
            TypeWorkshop x = withCases(2, 2000);
            x.castFount(1, 1);
            x.cast(0, 28, 10);
            order(x, "abcdefghijklmnopqrstuvwxyz", 0, 102, 0);
            due("all letters of the other case", x.set(0), 26);
            x.undo();
            x.melt(1, sort, 1);
            due("the letter " + sort + " is missing", x.set(0), NOT_POSSIBLE);
            x.cast(0, sort, 1);
            due("it is in its own case", x.set(0), 25);
        }
        TypeWorkshop x = withCases(1, 500);
        x.cast(0, 0, 1);
        x.cast(0, 28, 7);
        order(x, "a", 0, 10, 0);
        due("a 1 wide space is missing", x.set(0), NOT_POSSIBLE);
        x.cast(0, 28, 1);
        due("none is", x.set(0), 0);
    }

    private static void borrowedPieces() {
        TypeWorkshop x = withCases(2, 500);
        x.cast(0, 0, 10);
        x.cast(1, 0, 10);
        orderAs(x, 0, 10, 0);
        orderAs(x, 0, 10, 0);
        due("none", x.set(0), 0);
        due("all", x.set(1), 10);
        due("job(0, 8)", x.job(0, 8), 0);
        due("job(1, 8)", x.job(1, 8), 10);
    }

    private static void castMissingOfOneOrderedAlone() {
        TypeWorkshop x = withCases(1, 500);
        orderAs(x, 0, 5, 0);
        orderAs(x, 0, 5, 0);
        due("ordered", x.castMissing(0), 5);
        x.set(0);
        due("set", x.castMissing(0), NOT_POSSIBLE);
        x.print(0);
        due("printed", x.castMissing(0), NOT_POSSIBLE);
        x.distribute(0);
        x.melt(0, 0, 5);
        due("distributed, and missing", x.castMissing(0), NOT_POSSIBLE);
        x.cancel(1);
        due("cancelled, and missing", x.castMissing(1), NOT_POSSIBLE);
    }

    private static void castMissingOfNothing() {
        TypeWorkshop x = withCases(2, 500);
        orderAs(x, 0, 5, 0);
        x.cast(1, 0, 4);
        due("one is missing", x.castMissing(0), 1);
        due("into its own case", x.pieces(0, 0), 1);
        due("nothing is missing", x.castMissing(0), NONE);
        x.cast(1, 0, 1);
        due("less than nothing", x.castMissing(0), NONE);
    }

    private static void castMissingUpTo99() {
        TypeWorkshop x = withCases(2, 2000);
        x.cast(0, 0, 1);
        order(x, "a/a", 0, 51, 0);
        x.cast(1, 28, 98);
        due("an a", x.castMissing(0), 1);
        x.cancel(0);
        x.melt(1, 28, 98);
        order(x, "a/a", 0, 51, 0);
        x.order(0, 52, 0);
        due("100 ones", x.castMissing(2), FULL);
        due("98 ones", x.castMissing(1), 98);
        due("2 more are 100", x.castMissing(2), FULL);
        x.cast(1, 28, 1);
        due("1 more is 99", x.castMissing(2), 1);
        due("pieces(0, 28)", x.pieces(0, 28), 99);
    }

    private static void castMissingOfAnySort() {
        TypeWorkshop x = withCases(2, 5000);
        x.cast(0, 0, 99);
        x.cast(0, 27, 99);
        x.cast(1, 1, 99);
        order(x, "abc", 0, 11, 0);
        due("a sort that is not missing may be full", x.castMissing(0), 1);
        x.melt(0, 27, 99);
        x.cast(1, 28, 99);
        x.cast(0, 28, 98);
        order(x, "a/b", 0, 102, 0);
        order(x, "a/a", 0, 101, 0);
        due("2 of 199 are missing, 98 and 2 are too many", x.castMissing(1), FULL);
        due("1 of 198 is missing, what the other case has does not count", x.castMissing(2), 1);
        due("pieces(0, 28)", x.pieces(0, 28), 99);
        due("pieces(1, 28)", x.pieces(1, 28), 99);
    }

    private static void castMissingWithSoMuchMetal() {
        TypeWorkshop x = withCases(1, 2 * 6 + 3 * 1 - 1);
        order(x, "ee", 0, 15, 0);
        due("1 too few", x.castMissing(0), NOT_POSSIBLE);
        due("nothing is cast", x.count(3), 0);
        x.buy(1);
        due("just enough", x.castMissing(0), 5);
        due("all is taken", x.count(2), 0);
    }

    // ---- 13 to 16

    private static void printByHowManyDaysLate() {
        TypeWorkshop x = withCases(1, 500);
        x.cast(0, 0, 50);
        for (int due = 9; due <= 12; due++) {
            x.set(orderAs(x, 0, 5, due));
        }
        x.pass(11);
        due("two days late", x.print(0), 2);
        due("a day late", x.print(1), 1);
        due("on its due day", x.print(2), 0);
        due("a day early", x.print(3), 0);
        due("all days", x.count(12), 3);
    }

    private static void printOfOneSetAlone() {
        TypeWorkshop x = withCases(1, 500);
        x.cast(0, 0, 50);
        orderAs(x, 0, 5, 0);
        orderAs(x, 0, 5, 0);
        due("ordered", x.print(0), NOT_POSSIBLE);
        x.set(0);
        due("set", x.print(0), 0);
        due("printed", x.print(0), NOT_POSSIBLE);
        x.distribute(0);
        due("distributed", x.print(0), NOT_POSSIBLE);
        x.cancel(1);
        due("cancelled", x.print(1), NOT_POSSIBLE);
    }

    private static void distributeOfOnePrintedAlone() {
        TypeWorkshop x = withCases(1, 500);
        x.cast(0, 0, 50);
        orderAs(x, 0, 5, 0);
        orderAs(x, 0, 5, 0);
        due("ordered", x.distribute(0), NOT_POSSIBLE);
        x.set(0);
        due("set", x.distribute(0), NOT_POSSIBLE);
        x.print(0);
        due("printed", x.distribute(0), 0);
        due("distributed", x.distribute(0), NOT_POSSIBLE);
        x.cancel(1);
        due("cancelled", x.distribute(1), NOT_POSSIBLE);
    }

    private static void distributeToTheBox() {
        TypeWorkshop x = withCases(1, 500);
        x.cast(0, 0, 60);
        x.set(orderAs(x, 0, 7, 0));
        x.set(orderAs(x, 0, 8, 0));
        x.set(orderAs(x, 0, 45, 0));
        for (int job = 0; job < 3; job++) {
            x.print(job);
        }
        due("none of 7", x.distribute(0), 0);
        due("1 of 8", x.distribute(1), 1);
        x.cast(0, 0, 46);
        due("5 of 45, and one for which there is no room", x.distribute(2), 6);
        due("pieces(0, 0)", x.pieces(0, 0), 99);
        due("what is lost in the formes", x.count(4), 0);
        due("count(10)", x.count(10), 7);
    }

    private static void cancelOfOneOrderedOrSetAlone() {
        TypeWorkshop x = withCases(1, 500);
        x.cast(0, 0, 50);
        for (int job = 0; job < 3; job++) {
            orderAs(x, 0, 5, 0);
        }
        due("ordered", x.cancel(0), 0);
        due("cancelled", x.cancel(0), NOT_POSSIBLE);
        x.set(1);
        due("set", x.cancel(1), 5);
        x.set(2);
        x.print(2);
        due("printed", x.cancel(2), NOT_POSSIBLE);
        x.distribute(2);
        due("distributed", x.cancel(2), NOT_POSSIBLE);
    }

    private static void cancelWearsNone() {
        TypeWorkshop x = withCases(1, 500);
        x.cast(0, 0, 60);
        x.set(orderAs(x, 0, 60, 0));
        due("all of 60", x.cancel(0), 60);
        due("pieces(0, 0)", x.pieces(0, 0), 60);
        due("count(10)", x.count(10), 0);
        x.set(orderAs(x, 0, 60, 0));
        x.cast(0, 0, 99);
        due("none finds room", x.cancel(1), 0);
        due("pieces(-1, 0)", x.pieces(-1, 0), 60);
    }

    private static void passFrom1To30() {
        TypeWorkshop x = new TypeWorkshop();
        for (int wrong : new int[] {MIN, -1, 0, 31, MAX}) {
            due("pass(" + wrong + ")", x.pass(wrong), BAD_VALUE);
        }
        due("pass(1)", x.pass(1), 1);
        due("pass(30)", x.pass(30), 31);
    }

    // ---- 17 to 19

    private static void undoToTheLast() {
        TypeWorkshop x = new TypeWorkshop();
        due("empty", x.undo(), NONE);
        x.pass(1);
        x.pass(1);
        due("one is left", x.undo(), 1);
        due("none is left", x.undo(), 0);
        due("empty", x.undo(), NONE);
        due("count(11)", x.count(11), 0);
    }

    private static void keepAnswersTheNumberOfJobs() {
        TypeWorkshop x = withCases(1, 0);
        due("none", x.keep(), 0);
        write(x, "a");
        for (int job = 0; job < 12; job++) {
            x.order(0, 10, 0);
            due("jobs", x.keep(), job + 1);
        }
        x.undo();
        due("restore()", x.restore(), 12);
    }

    private static void keepInPlaceOfTheOneThatWas() {
        TypeWorkshop x = new TypeWorkshop();
        x.pass(1);
        x.keep();
        x.pass(1);
        x.keep();
        x.pass(1);
        x.restore();
        due("the second one", x.count(11), 2);
        x.pass(20);
        x.restore();
        due("it is not that which was restored over", x.count(11), 2);
    }

    private static void restoreWithoutASnapshot() {
        TypeWorkshop x = new TypeWorkshop();
        x.pass(1);
        due("restore()", x.restore(), NONE);
        due("count(11)", x.count(11), 1);
        due("no state is recorded", x.count(14), 1);
        x.keep();
        due("restore()", x.restore(), 0);
        due("an act, though it changes nothing", x.count(14), 2);
    }

    private static void restoreLeavesTheSnapshot() {
        TypeWorkshop x = new TypeWorkshop();
        x.keep();
        for (int i = 0; i < 7; i++) {
            x.pass(3);
            due("restore()", x.restore(), 0);
            due("count(11)", x.count(11), 0);
            due("count(14)", x.count(14), Math.min(5, 2 * i + 2));
        }
        due("undo()", x.undo(), 4);
        due("count(11)", x.count(11), 3);
    }

    // ---- 20 to 26

    private static void piecesOfACaseOrOfTheBox() {
        TypeWorkshop x = withCases(2, 500);
        x.cast(0, 0, 16);
        x.cast(1, 28, 3);
        x.set(orderAs(x, 0, 16, 0));
        x.print(0);
        x.distribute(0);
        due("the box", x.pieces(-1, 0), 2);
        due("the first case", x.pieces(0, 0), 14);
        due("the last case", x.pieces(1, 28), 3);
        for (int wrong : new int[] {MIN, -2, 2, 6, MAX}) {
            due("pieces(" + wrong + ", 0)", x.pieces(wrong, 0), UNKNOWN);
        }
        for (int wrong : new int[] {MIN, -1, 29, MAX}) {
            due("pieces(-1, " + wrong + ")", x.pieces(-1, wrong), UNKNOWN);
            due("pieces(1, " + wrong + ")", x.pieces(1, wrong), UNKNOWN);
        }
        due("the box is there without cases", new TypeWorkshop().pieces(-1, 28), 0);
    }

    private static void jobWhatFrom0To10() {
        TypeWorkshop x = withCases(1, 500);
        orderAs(x, 0, 5, 0);
        for (int wrong : new int[] {MIN, -1, 11, MAX}) {
            due("job(0, " + wrong + ")", x.job(0, wrong), BAD_VALUE);
        }
        int[] want = {0, 10, 0, 0, 1, 5, 1, 0, 0, NONE, NONE};
        for (int what = 0; what < want.length; what++) {
            due("job(0, " + what + ")", x.job(0, what), want[what]);
        }
    }

    private static void formeOfOneSetOrPrintedAlone() {
        TypeWorkshop x = withCases(2, 500);
        x.cast(1, 0, 20);
        for (int job = 0; job < 2; job++) {
            orderAs(x, 0, 5, 0);
        }
        due("ordered", x.job(0, 7), 0);
        due("ordered, borrowed", x.job(0, 8), 0);
        x.set(0);
        x.set(1);
        due("set", x.job(0, 7), 5);
        due("set, borrowed", x.job(0, 8), 5);
        x.print(0);
        due("printed", x.job(0, 7), 5);
        due("printed, borrowed", x.job(0, 8), 5);
        x.distribute(0);
        due("distributed", x.job(0, 7), 0);
        due("distributed, borrowed", x.job(0, 8), 0);
        x.cancel(1);
        due("cancelled", x.job(1, 7), 0);
        due("cancelled, borrowed", x.job(1, 8), 0);
    }

    private static void dayOfPrinting() {
        TypeWorkshop x = withCases(1, 500);
        x.cast(0, 0, 20);
        for (int job = 0; job < 3; job++) {
            x.set(orderAs(x, 0, 5, 3));
            due("not printed", x.job(job, 9), NONE);
            due("not late", x.job(job, 10), NONE);
        }
        x.print(0);
        due("on day 0", x.job(0, 9), 0);
        due("late by 0", x.job(0, 10), 0);
        x.cancel(1);
        x.pass(4);
        due("cancelled", x.job(1, 9), NONE);
        due("cancelled", x.job(1, 10), NONE);
        x.print(2);
        x.pass(4);
        due("on day 4", x.job(2, 9), 4);
        due("late by 1, and no more as days pass", x.job(2, 10), 1);
        x.distribute(2);
        due("on day 4, still", x.job(2, 9), 4);
        due("late by 1, still", x.job(2, 10), 1);
    }

    private static void needBeItOrderedOrNot() {
        TypeWorkshop x = withCases(1, 500);
        x.cast(0, 0, 20);
        x.cast(0, 26, 3);
        for (int job = 0; job < 2; job++) {
            order(x, "a a", 0, 12, 0);
        }
        due("ordered", x.need(0, 0), 2);
        due("ordered", x.need(0, 26), 2);
        x.set(0);
        due("set", x.need(0, 26), 2);
        due("another one", x.need(1, 26), 1);
        due("another one", x.need(1, 28), 4);
        x.print(0);
        due("printed", x.need(0, 26), 2);
        x.distribute(0);
        due("distributed", x.need(0, 26), 2);
        due("distributed", x.need(0, 0), 2);
        x.melt(0, 26, 2);
        due("distributed, by what is in the cases", x.need(0, 26), 1);
        due("distributed, by what is in the cases", x.need(0, 28), 4);
        x.cancel(1);
        due("cancelled", x.need(1, 26), 1);
        due("cancelled", x.need(1, 0), 2);
    }

    private static void needAsIfItsOwnPiecesWereInTheirCases() {
        TypeWorkshop x = withCases(1, 2000);
        x.cast(0, 0, 3);
        x.cast(0, 26, 99);
        x.cast(0, 27, 24);
        order(x, "a/a/a", 0, 150, 0);
        due("set(0)", x.set(0), 0);
        due("need(0, 26)", x.need(0, 26), 99);
        due("need(0, 27)", x.need(0, 27), 24);
        x.cast(0, 26, 11);
        due("110 fours, which is more than 99", x.need(0, 26), 110);
        due("need(0, 27)", x.need(0, 27), 2);
        x.cast(0, 26, 1);
        due("111 fours", x.need(0, 26), 111);
        due("need(0, 27)", x.need(0, 27), 0);
        x.print(0);
        x.cast(0, 26, 87);
        due("no more than are needed", x.need(0, 26), 111);
        due("of a letter", x.need(0, 0), 3);
        due("none is missing", x.missing(0, 0), 0);
    }

    private static void missingAsToldAtNeed() {
        TypeWorkshop x = withCases(1, 500);
        x.cast(0, 0, 8);
        orderAs(x, 0, 8, 0);
        orderAs(x, 0, 8, 0);
        due("none", x.missing(0, 0), 0);
        x.set(0);
        due("its own pieces are there", x.missing(0, 0), 0);
        due("for another they are not", x.missing(1, 0), 8);
        x.print(0);
        due("its own pieces are there", x.missing(0, 0), 0);
        x.distribute(0);
        due("one is worn", x.missing(0, 0), 1);
        due("one is worn", x.missing(1, 0), 1);
        x.cancel(1);
        due("of one cancelled", x.missing(1, 0), 1);
    }

    private static void missingAreOnesAlone() {
        TypeWorkshop x = withCases(1, 500);
        x.cast(0, 0, 2);
        x.cast(0, 28, 2);
        order(x, "a a", 0, 11, 0);
        due("5 of 7", x.missing(0, 28), 5);
        x.cast(0, 27, 2);
        due("1 of 3", x.missing(0, 28), 1);
        due("missing(0, 27)", x.missing(0, 27), 0);
        x.cast(0, 27, 1);
        due("none of 1", x.missing(0, 28), 0);
        due("missing(0, 26)", x.missing(0, 26), 0);
    }

    private static void takenInTheForme() {
        TypeWorkshop x = withCases(2, 500);
        x.cast(0, 0, 3);
        x.cast(1, 0, 8);
        orderAs(x, 0, 5, 0);
        orderAs(x, 0, 5, 0);
        due("ordered", x.taken(0, 0, 0), 0);
        x.set(0);
        x.set(1);
        due("set, its own", x.taken(0, 0, 0), 3);
        due("set, the other", x.taken(0, 1, 0), 2);
        due("set, none of its own", x.taken(1, 0, 0), 0);
        x.print(0);
        due("printed", x.taken(0, 1, 0), 2);
        x.distribute(0);
        due("distributed", x.taken(0, 1, 0), 0);
        x.cancel(1);
        due("cancelled", x.taken(1, 1, 0), 0);
        for (int wrong : new int[] {MIN, -1, 2, MAX}) {
            due("taken(" + wrong + ", 0, 0)", x.taken(wrong, 0, 0), UNKNOWN);
            due("taken(0, " + wrong + ", 0)", x.taken(0, wrong, 0), UNKNOWN);
        }
    }

    private static void gapIfThereIsSuchALineAndGap() {
        TypeWorkshop x = withCases(1, 500);
        x.castFount(0, 4);
        order(x, "a a a/a", 0, 11, 0);
        for (int state = 0; state < 4; state++) {
            due("gap(0, 0, 0)", x.gap(0, 0, 0), 3);
            due("gap(0, 0, 1)", x.gap(0, 0, 1), 2);
            due("gap(0, 0, 2)", x.gap(0, 0, 2), NONE);
            due("gap(0, 0, -1)", x.gap(0, 0, -1), NONE);
            due("gap(0, 1, 0)", x.gap(0, 1, 0), 9);
            due("gap(0, 1, 1)", x.gap(0, 1, 1), NONE);
            due("gap(0, 1, -1)", x.gap(0, 1, -1), NONE);
            due("gap(0, 2, 0)", x.gap(0, 2, 0), NONE);
            due("gap(0, -1, 0)", x.gap(0, -1, 0), NONE);
            due("gap(1, 0, 0)", x.gap(1, 0, 0), UNKNOWN);
            x.set(0);
            x.print(state >= 1 ? 0 : 1);
            x.distribute(state >= 2 ? 0 : 1);
        }
        due("all states were asked", x.job(0, 3), 3);
        order(x, "a", 0, 11, 0);
        x.cancel(1);
        due("of one cancelled", x.gap(1, 0, 0), 9);
    }

    private static void pieceAtOfOneSetOrPrintedAlone() {
        TypeWorkshop x = withCases(1, 500);
        x.castFount(0, 4);
        order(x, "ab", 0, 10, 0);
        x.order(0, 10, 0);
        due("ordered", x.pieceAt(0, 0, 0), NOT_POSSIBLE);
        x.set(0);
        due("set", x.pieceAt(0, 0, 0), 'a');
        x.print(0);
        due("printed", x.pieceAt(0, 0, 1), 'b');
        x.distribute(0);
        due("distributed", x.pieceAt(0, 0, 0), NOT_POSSIBLE);
        x.cancel(1);
        due("cancelled", x.pieceAt(1, 0, 0), NOT_POSSIBLE);
        x.undo();
        due("ordered again", x.pieceAt(1, 0, 0), NOT_POSSIBLE);
    }

    private static void pieceAtIfTheLineIsSoLong() {
        TypeWorkshop x = withCases(1, 2000);
        x.castFount(0, 9);
        order(x, "ab/c e/eee", 0, 18, 0);
        x.set(0);
        String[] want = {"ab44" + "41", "c44e", "eee"};
        for (int line = 0; line < 3; line++) {
            lineIs(x, 0, line, want[line]);
            due("the last one", x.pieceAt(0, line, want[line].length() - 1), want[line].charAt(want[line].length() - 1));
            due("one behind it", x.pieceAt(0, line, want[line].length()), NONE);
            due("far behind it", x.pieceAt(0, line, MAX), NONE);
            due("ahead of the first", x.pieceAt(0, line, -1), NONE);
            due("far ahead of the first", x.pieceAt(0, line, MIN), NONE);
        }
        for (int wrong : new int[] {MIN, -1, 3, 30, MAX}) {
            due("line " + wrong, x.pieceAt(0, wrong, 0), NONE);
        }
    }

    private static void pieceAtAsTheyWereFilledIn() {
        TypeWorkshop x = withCases(1, 2000);
        x.cast(0, 0, 5);
        x.cast(0, 26, 1);
        x.cast(0, 27, 1);
        x.cast(0, 28, 20);
        order(x, "a a/aa a", 0, 11, 0);
        x.set(0);
        String[] want = {"a421a", "aa" + times("1", 5) + "a"};
        lineIs(x, 0, 0, want[0]);
        lineIs(x, 0, 1, want[1]);
        x.cast(0, 26, 9);
        x.cast(0, 27, 9);
        due("it would need others now", x.need(0, 26), 2);
        lineIs(x, 0, 0, want[0]);
        lineIs(x, 0, 1, want[1]);
        x.print(0);
        x.melt(0, 26, 9);
        lineIs(x, 0, 1, want[1]);
    }

    // ---- 27 and 28

    private static void urgentOfThoseOrderedOrSet() {
        TypeWorkshop x = withCases(1, 500);
        x.cast(0, 0, 50);
        due("no job", x.urgent(), NONE);
        for (int job = 0; job < 4; job++) {
            orderAs(x, 0, 5, job);
        }
        due("ordered", x.urgent(), 0);
        x.set(0);
        due("set", x.urgent(), 0);
        x.print(0);
        due("printed", x.urgent(), 1);
        x.distribute(0);
        due("distributed", x.urgent(), 1);
        x.cancel(1);
        due("cancelled", x.urgent(), 2);
        x.cancel(2);
        x.cancel(3);
        due("none of them", x.urgent(), NONE);
    }

    private static void urgentIsTheLowestOfSeveral() {
        TypeWorkshop x = withCases(1, 0);
        write(x, "a");
        int[] due = {9999, 9999, 8, 7, 7, 7, 8};
        int[] want = {0, 0, 2, 3, 3, 3, 3};
        for (int job = 0; job < due.length; job++) {
            x.order(0, 10, due[job]);
            due("with " + (job + 1) + " jobs", x.urgent(), want[job]);
        }
        x.order(0, 10, 0);
        due("due on day 0", x.urgent(), 7);
    }

    private static void countFrom0To15() {
        TypeWorkshop x = withCases(1, 10);
        for (int wrong : new int[] {MIN, -1, 16, MAX}) {
            due("count(" + wrong + ")", x.count(wrong), BAD_VALUE);
        }
        due("the first", x.count(0), 1);
        x.type('a');
        due("the last", x.count(15), 1);
    }

    private static void countOfJobsWhoseDueDayIsPast() {
        TypeWorkshop x = withCases(1, 500);
        x.cast(0, 0, 50);
        for (int job = 0; job < 5; job++) {
            orderAs(x, 0, 5, job < 4 ? 3 : 4);
        }
        x.pass(3);
        due("on the due day", x.count(13), 0);
        x.pass(1);
        due("a day behind it", x.count(13), 4);
        x.set(0);
        due("one that is set", x.count(13), 4);
        x.print(0);
        due("one that is printed", x.count(13), 3);
        x.cancel(1);
        due("one that is cancelled", x.count(13), 2);
        x.pass(1);
        due("the last one, too", x.count(13), 3);
    }

    private static void countOfDaysLate() {
        TypeWorkshop x = withCases(1, 500);
        x.cast(0, 0, 50);
        for (int due = 1; due <= 4; due++) {
            x.set(orderAs(x, 0, 5, due));
        }
        x.pass(3);
        due("those that are not printed are not counted", x.count(12), 0);
        x.print(0);
        x.print(1);
        x.print(2);
        x.print(3);
        due("2, 1, 0 and none early", x.count(12), 2 + 1);
        x.distribute(0);
        x.pass(9);
        due("one that is distributed, too", x.count(12), 3);
    }

    private static void countOfPiecesAndMetal() {
        TypeWorkshop x = withCases(2, 1000);
        x.cast(1, 0, 58);
        orderAs(x, 0, 58, 0);
        due("count(3)", x.count(3), 116);
        x.set(0);
        due("none is left in cases", x.count(3), 0);
        due("all of it in the forme", x.count(4), 116);
        x.cast(1, 0, 98);
        x.cancel(0);
        due("57 find no room", x.count(10), 57);
        due("count(5)", x.count(5), 114);
        due("count(4)", x.count(4), 0);
        due("meltBox()", x.meltBox(), 112);
        due("dross", x.count(7), 2);
        due("all pieces that were melted, of the box, too", x.count(9), 57);
        x.melt(1, 0, 99);
        due("and of the case", x.count(9), 156);
        due("all pieces that were cast", x.count(8), 156);
        due("the pot", x.count(2), 998);
        due("all metal that was bought", x.count(6), 1000);
        x.castFount(0, 1);
        due("a fount is cast, too", x.count(8), 188);
        orderAs(x, 0, 6, 0);
        x.castMissing(1);
        due("what was missing is cast, too", x.count(8), 193);
    }

    private static void metalAndCases() {
        part("1: Creates a workshop without cases and metal.", PromiseEdgeTests::withoutCasesAndMetal);
        part("2: metal: 1 to 20000", PromiseEdgeTests::buyFrom1To20000);
        part("2: FULL if it would be more than 100000.", PromiseEdgeTests::buyUpTo100000);
        part("2: FULL if it (the metal in the pot) would be more", PromiseEdgeTests::buyAgainWhatWasSpent);
        part("3: Returns its number; FULL if there are 6.", PromiseEdgeTests::addCaseUpTo6);
        part("3: Adds an empty case.", PromiseEdgeTests::addCaseIsEmpty);
        part("4: count: 1 to 99", PromiseEdgeTests::castFrom1To99);
        part("4: FULL if it would have more than 99", PromiseEdgeTests::castUpTo99);
        part("4: NOT_POSSIBLE if there is not so much metal.", PromiseEdgeTests::castWithSoMuchMetal);
        part("5: count: 1 to 9", PromiseEdgeTests::castFountFrom1To9);
        part("5: count pieces of each letter, and twice as many of each space.", PromiseEdgeTests::castFountIsTwiceOfSpaces);
        part("5: FULL if the case would have more than 99 of any sort", PromiseEdgeTests::castFountUpTo99OfAnySort);
        part("5: NOT_POSSIBLE if there is not so much metal.", PromiseEdgeTests::castFountWithSoMuchMetal);
        part("6: count: 1 to 99", PromiseEdgeTests::meltFrom1To99);
        part("6: NOT_POSSIBLE if the case has not so many.", PromiseEdgeTests::meltSoMany);
        part("7: NONE if the box is empty.", PromiseEdgeTests::meltBoxThatIsEmpty);
    }

    private static void textsAndOrders() {
        part("8: character: any character", PromiseEdgeTests::typeAnyCharacter);
        part("8: Returns the length of the text then; FULL if it has 60 characters.", PromiseEdgeTests::typeUpTo60);
        part("9: Returns the length that it had.", PromiseEdgeTests::clearTextAnswersTheLengthThatItHad);
        part("10: due: 0 to 9999", PromiseEdgeTests::orderDueFrom0To9999);
        part("10: measure: 10 to 150", PromiseEdgeTests::orderMeasureFrom10To150);
        part("10: -100 minus the fault of the text if it has one", PromiseEdgeTests::orderFaults);
        part("10: NOT_POSSIBLE if any line is too wide", PromiseEdgeTests::orderTooWide);
        part("10: FULL if there are 12 jobs.", PromiseEdgeTests::orderUpTo12);
        part("10: Orders a job with the text, which stays.", PromiseEdgeTests::orderLeavesTheText);
    }

    private static void steps() {
        part("11: NOT_POSSIBLE if it is not in this state", PromiseEdgeTests::setOfOneOrderedAlone);
        part("11: or any sort is missing.", PromiseEdgeTests::setIfNoSortIsMissing);
        part("11: Returns how many pieces are borrowed (taken from other cases than its own)", PromiseEdgeTests::borrowedPieces);
        part("12: NOT_POSSIBLE if it is not in this state", PromiseEdgeTests::castMissingOfOneOrderedAlone);
        part("12: NONE if nothing is missing", PromiseEdgeTests::castMissingOfNothing);
        part("12: FULL if the case would have more than 99", PromiseEdgeTests::castMissingUpTo99);
        part("12: .. of any sort", PromiseEdgeTests::castMissingOfAnySort);
        part("12: NOT_POSSIBLE if there is not so much metal.", PromiseEdgeTests::castMissingWithSoMuchMetal);
        part("13: Returns by how many days it is late (0 if it is not)", PromiseEdgeTests::printByHowManyDaysLate);
        part("13: NOT_POSSIBLE if it is not in this state.", PromiseEdgeTests::printOfOneSetAlone);
        part("14: NOT_POSSIBLE if it is not in this state.", PromiseEdgeTests::distributeOfOnePrintedAlone);
        part("14: Returns how many pieces come to the box", PromiseEdgeTests::distributeToTheBox);
        part("15: NOT_POSSIBLE if it is in neither state.", PromiseEdgeTests::cancelOfOneOrderedOrSetAlone);
        part("15: go back as if it was distributed, but none is worn.", PromiseEdgeTests::cancelWearsNone);
        part("16: days: 1 to 30", PromiseEdgeTests::passFrom1To30);
        part("17: Returns the number of states that are left; NONE if the history is empty.", PromiseEdgeTests::undoToTheLast);
        part("18: Returns the number of jobs.", PromiseEdgeTests::keepAnswersTheNumberOfJobs);
        part("18: in place of the one that was.", PromiseEdgeTests::keepInPlaceOfTheOneThatWas);
        part("19: NONE if there is no snapshot.", PromiseEdgeTests::restoreWithoutASnapshot);
        part("19: Restores the state of the snapshot, which stays.", PromiseEdgeTests::restoreLeavesTheSnapshot);
    }

    private static void tellings() {
        part("20: box: a case, or -1 for the box of worn pieces; sort: 0 to 28", PromiseEdgeTests::piecesOfACaseOrOfTheBox);
        part("21: what: 0 .. to 10 ..; BAD_VALUE.", PromiseEdgeTests::jobWhatFrom0To10);
        part("21: the pieces in its forme (0 if it is neither set nor printed)", PromiseEdgeTests::formeOfOneSetOrPrintedAlone);
        part("21: 9 for the day on which it was printed (NONE if it was not), 10 .. (NONE likewise)",
            PromiseEdgeTests::dayOfPrinting);
        part("22: be it ordered or not", PromiseEdgeTests::needBeItOrderedOrNot);
        part("22: of one that is set or printed as if its own pieces were in their cases (which may have more than 99 then)",
            PromiseEdgeTests::needAsIfItsOwnPiecesWereInTheirCases);
        part("23: by how many pieces a sort is missing for a job (as told at need())", PromiseEdgeTests::missingAsToldAtNeed);
        part("23: of 1 wide spaces those that would be needed", PromiseEdgeTests::missingAreOnesAlone);
        part("24: how many pieces of this sort in the forme of the job come from this case; UNKNOWN",
            PromiseEdgeTests::takenInTheForme);
        part("25: UNKNOWN (the job); NONE if there is no such line or gap.", PromiseEdgeTests::gapIfThereIsSuchALineAndGap);
        part("26: NOT_POSSIBLE if it is neither set nor printed", PromiseEdgeTests::pieceAtOfOneSetOrPrintedAlone);
        part("26: NONE if there is no such line, or it is not so long.", PromiseEdgeTests::pieceAtIfTheLineIsSoLong);
        part("26: as they were filled in.", PromiseEdgeTests::pieceAtAsTheyWereFilledIn);
        part("27: of those that are ordered or set ..; NONE if there is none.", PromiseEdgeTests::urgentOfThoseOrderedOrSet);
        part("27: Returns the job, the lowest one of several", PromiseEdgeTests::urgentIsTheLowestOfSeveral);
        part("28: what: 0 .. to 15 ..; BAD_VALUE.", PromiseEdgeTests::countFrom0To15);
        part("28: 13 for jobs that are ordered or set and whose due day is past", PromiseEdgeTests::countOfJobsWhoseDueDayIsPast);
        part("28: 12 for all days by which jobs were late", PromiseEdgeTests::countOfDaysLate);
        part("28: 2 to 10, metal and pieces", PromiseEdgeTests::countOfPiecesAndMetal);
    }

    public static void main(String[] args) {
        metalAndCases();
        textsAndOrders();
        steps();
        tellings();
        Check.end();
    }
}
