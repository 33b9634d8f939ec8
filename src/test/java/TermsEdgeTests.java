import java.util.Arrays;
import java.util.function.Supplier;

/** For each sentence under "Terms" that names a boundary case a test of its own, which bears the sentence as its name. */
public final class TermsEdgeTests extends Bench {
    private static final int[] WIDTHS = {2, 3, 4, 5, 6, 2, 3, 4, 5, 6, 2, 3, 4, 5, 6, 2, 3, 4, 5, 6, 2, 3, 4, 5, 6, 2, 4, 2, 1};
    private static final int[] NO_SORTS = {MIN, -1, 29, MAX};

    private static String times(String sign, int count) {
        return sign.repeat(count);
    }

    private static void castSome(TypeWorkshop x, int box, int sort, int count) {
        if (count > 0) {
            due("cast(" + box + ", " + sort + ", " + count + ")", x.cast(box, sort, count), count);
        }
    }

    /** Brings pieces to the box without wear: a job with all of a sort is cancelled when its case is full again. */
    private static void bringToBox(TypeWorkshop x, int sort, int count) {
        x.cast(0, sort, count);
        int job = sort < FOUR_WIDE ? order(x, times("" + (char) ('a' + sort), count), 0, WIDTHS[sort] * count, 0)
            : order(x, "z", 0, 2 + WIDTHS[sort] * count, 0);
        due("set", x.set(job), 0);
        x.cast(0, sort, 99);
        x.cancel(job);
        due("melt", Math.min(x.melt(0, sort, 99), 0), 0);
    }

    // ---- sorts

    private static void sortsFrom0To28() {
        TypeWorkshop x = withCases(1, 500);
        due("order", order(x, "az", 0, 10, 0), 0);
        for (int sort = 0; sort < 29; sort++) {
            due("cast(0, " + sort + ", 1)", x.cast(0, sort, 1), 1);
            due("pieces(0, " + sort + ")", x.pieces(0, sort), 1);
            due("pieces(-1, " + sort + ")", x.pieces(-1, sort), 0);
            due("need(0, " + sort + ")", x.need(0, sort), sort == 0 || sort == 25 || sort == 26 || sort == 27 ? 1 : 0);
            due("melt(0, " + sort + ", 1)", Math.min(x.melt(0, sort, 1), 0), 0);
            x.cast(0, sort, 1);
        }
        for (int sort : NO_SORTS) {
            due("cast(0, " + sort + ", 1)", x.cast(0, sort, 1), UNKNOWN);
            due("melt(0, " + sort + ", 1)", x.melt(0, sort, 1), UNKNOWN);
            due("pieces(0, " + sort + ")", x.pieces(0, sort), UNKNOWN);
            due("pieces(-1, " + sort + ")", x.pieces(-1, sort), UNKNOWN);
            due("need(0, " + sort + ")", x.need(0, sort), UNKNOWN);
            due("missing(0, " + sort + ")", x.missing(0, sort), UNKNOWN);
            due("taken(0, 0, " + sort + ")", x.taken(0, 0, sort), UNKNOWN);
        }
    }

    private static void widthsOfLetters() {
        for (int letter = 0; letter < 26; letter++) {
            TypeWorkshop x = withCases(1, 0);
            String sign = "" + (char) ('a' + letter);
            due("order of " + sign, order(x, sign, 0, 10, 0), 0);
            due("what " + sign + " leaves of 10", x.gap(0, 0, 0), 10 - WIDTHS[letter]);
        }
    }

    private static void widthsOfSpaces() {
        int[] widths = {4, 2, 1};
        for (int i = 0; i < 3; i++) {
            TypeWorkshop x = withCases(1, 500);
            x.cast(0, 26 + i, 8);
            x.cast(0, 0, 1);
            order(x, "a", 0, 10, 0);
            due("need(0, " + (26 + i) + ") of a gap of 8", x.need(0, 26 + i), 8 / widths[i]);
            due("set(0)", x.set(0), 0);
            lineIs(x, 0, 0, "a" + times("" + widths[i], 8 / widths[i]));
        }
    }

    private static void metalOfAPiece() {
        for (int sort = 0; sort < 29; sort++) {
            int width = WIDTHS[sort];
            TypeWorkshop x = withCases(1, width - 1);
            due("1 too few for " + sort, x.cast(0, sort, 1), NOT_POSSIBLE);
            x.buy(1);
            due("just enough for " + sort, x.cast(0, sort, 1), 1);
            due("left in the pot", x.count(2), 0);
            due("in the case", x.count(3), width);
            due("melt", x.melt(0, sort, 1), width);
            x.buy(2000);
            int other = sort == 25 ? 0 : 25;
            x.cast(0, other, 1);
            bringToBox(x, sort, 8);
            due("in the box", x.count(5), 8 * width);
            x.cast(0, sort, 16);
            int job = sort < 26 ? order(x, times("" + (char) ('a' + sort), 16), 0, 16 * width, 0)
                : order(x, "z", 0, 2 + 16 * width, 0);
            due("set", x.set(job), 0);
            due("in the forme", x.count(4), 16 * width + (sort < 26 ? 0 : 2));
        }
    }

    // ---- cases

    private static void sixCasesFrom0() {
        TypeWorkshop x = withCases(0, 100);
        for (int box = 0; box < 6; box++) {
            due("cast into case " + box + " ahead of its time", x.cast(box, 0, 1), UNKNOWN);
            due("addCase()", x.addCase(), box);
            due("cast into case " + box, x.cast(box, 0, 1), 1);
        }
        due("a seventh one", x.addCase(), FULL);
        due("count(0)", x.count(0), 6);
        due("cast(6, 0, 1)", x.cast(6, 0, 1), UNKNOWN);
        due("pieces(6, 0)", x.pieces(6, 0), UNKNOWN);
        due("order(6, 10, 0)", order(x, "a", 6, 10, 0), UNKNOWN);
        due("order(5, 10, 0)", order(x, "a", 5, 10, 0), 0);
        due("taken(0, 6, 0)", x.taken(0, 6, 0), UNKNOWN);
        due("taken(0, 5, 0)", x.taken(0, 5, 0), 0);
    }

    private static void piecesFrom0To99() {
        TypeWorkshop x = withCases(2, 20000);
        for (int sort = 0; sort < 29; sort++) {
            due("at first", x.pieces(1, sort), 0);
            due("melt of none", x.melt(1, sort, 1), NOT_POSSIBLE);
            due("cast of 98", x.cast(1, sort, 98), 98);
            due("2 more", x.cast(1, sort, 2), FULL);
            due("1 more", x.cast(1, sort, 1), 99);
            due("100", x.cast(1, sort, 1), FULL);
        }
        for (int sort = 0; sort < 29; sort++) {
            due("all sorts are full at once", x.pieces(1, sort), 99);
            due("the other case is empty", x.pieces(0, sort), 0);
        }
        due("melt of all", Math.min(x.melt(1, 0, 99), 0), 0);
        due("none is left", x.pieces(1, 0), 0);
        due("melt of none", x.melt(1, 0, 1), NOT_POSSIBLE);
    }

    private static void potIsEmptyAtFirst() {
        TypeWorkshop x = withCases(1, 0);
        due("count(2)", x.count(2), 0);
        due("cast(0, 28, 1)", x.cast(0, 28, 1), NOT_POSSIBLE);
        due("buy(1)", x.buy(1), 1);
    }

    private static void boxIsEmptyAtFirst() {
        TypeWorkshop x = withCases(1, 5000);
        for (int sort = 0; sort < 29; sort++) {
            due("pieces(-1, " + sort + ")", x.pieces(-1, sort), 0);
        }
        due("meltBox()", x.meltBox(), NONE);
        for (int boxed = 60; boxed <= 180; boxed += 60) {
            bringToBox(x, 0, 60);
            due("the box is not bounded by 99", x.pieces(-1, 0), boxed);
        }
        due("but of one sort alone", x.count(10), 180);
    }

    private static void dayIs0AtFirst() {
        TypeWorkshop x = withCases(1, 0);
        due("count(11)", x.count(11), 0);
        order(x, "a", 0, 10, 0);
        due("what is due on day 0 is not late", x.count(13), 0);
        due("pass(1)", x.pass(1), 1);
    }

    // ---- texts

    private static void textOf60() {
        TypeWorkshop x = withCases(1, 0);
        due("empty at first", x.count(15), 0);
        for (int i = 1; i <= 60; i++) {
            due("type", x.type('a'), i);
        }
        due("61", x.type('a'), FULL);
        due("61 again, another sign", x.type(' '), FULL);
        due("count(15)", x.count(15), 60);
        due("one of 60 is ordered", x.order(0, 120, 0), 0);
        due("letters", x.job(0, 5), 60);
        due("need(0, 0)", x.need(0, 0), 60);
    }

    private static int faultOf(String text) {
        return order(withCases(1, 0), text, 0, 150, 0);
    }

    private static void linesOfAText() {
        TypeWorkshop x = withCases(1, 0);
        due("one", order(x, "a", 0, 10, 0), 0);
        due("two", order(x, "a/b", 0, 10, 0), 1);
        due("three", order(x, "a/b/c", 0, 10, 0), 2);
        due("thirty, the last mark at 58", order(x, "a" + times("/a", 29), 0, 10, 0), 3);
        int[] lines = {1, 2, 3, 30};
        for (int job = 0; job < 4; job++) {
            due("lines of " + job, x.job(job, 4), lines[job]);
            due("the last line has a gap", x.gap(job, lines[job] - 1, 0), job == 1 ? 7 : job == 2 ? 6 : 8);
            due("there is no further one", x.gap(job, lines[job], 0), NONE);
        }
        due("no line ahead of a mark", faultOf("/a"), -100);
        due("no line between two marks", faultOf("a//a"), -102);
        due("no line behind a mark", faultOf("a/"), -102);
        due("another mark", faultOf("a\na"), -101);
        due("another mark", faultOf("a\\a"), -101);
    }

    private static void wordsOfALine() {
        TypeWorkshop x = withCases(1, 0);
        due("one", order(x, "aa", 0, 10, 0), 0);
        due("two", order(x, "a a", 0, 10, 0), 1);
        due("thirty, the last blank at 58", order(x, "a" + times(" a", 29), 0, 150, 0), 2);
        due("gaps of two words", x.job(1, 6), 1);
        due("gaps of thirty words", x.job(2, 6), 29);
        due("a blank ahead of the first", faultOf(" a"), -100);
        due("two blanks", faultOf("a  a"), -102);
        due("a blank behind the last", faultOf("a "), -102);
        due("a blank ahead of a mark", faultOf("a /a"), -102);
        due("a blank behind a mark", faultOf("a/ a"), -102);
        due("another blank", faultOf("a\ta"), -101);
        due("another blank", faultOf("a" + (char) 160 + "a"), -101);
    }

    private static void lettersOfAWord() {
        for (char sign = 0; sign < 600; sign++) {
            boolean letter = sign >= 'a' && sign <= 'z';
            boolean mark = sign == ' ' || sign == '/';
            due((int) sign + " as a text", faultOf("" + sign), letter ? 0 : -100);
            due((int) sign + " behind a letter", faultOf("a" + sign + "b"), letter || mark ? 0 : -101);
            due((int) sign + " behind a blank", faultOf("a " + sign), letter ? 0 : -102);
            due((int) sign + " behind a line", faultOf("a/" + sign), letter ? 0 : -102);
        }
        for (int high = 256; high < 65536; high += 256) {
            due("a and " + high, faultOf("a" + (char) ('a' + high)), -101);
            due("a blank and " + high, faultOf("a" + (char) (' ' + high) + "a"), -101);
        }
        due("the last character", faultOf("a" + (char) 65535), -101);
    }

    private static void faultOfAText() {
        due("the empty text", faultOf(""), -100);
        due("ends behind a blank", faultOf("ab "), -103);
        due("ends behind a mark", faultOf("ab/"), -103);
        due("the first of two faults", faultOf("abA A"), -102);
        due("a fault ahead of an early end", faultOf("a!b "), -101);
        due("at index 0", faultOf("!a"), -100);
        due("at index 59", faultOf(times("a", 59) + "!"), -159);
        due("at the length of 60", faultOf(times("a", 59) + "/"), -160);
        due("at the length of 60", faultOf(times("a", 59) + " "), -160);
        due("none in 60", faultOf(times("a", 57) + "/aa"), 0);
        TypeWorkshop x = withCases(1, 0);
        write(x, "abc");
        x.clearText();
        due("one that was emptied", x.order(0, 150, 0), -100);
        write(x, "abc");
        write(x, "a");
        x.type('/');
        due("what was typed before is no part of it", x.order(0, 150, 0), -102);
    }

    // ---- jobs

    private static void twelveJobsFrom0() {
        TypeWorkshop x = withCases(1, 0);
        write(x, "a");
        for (int job = 0; job < 12; job++) {
            due("job ahead of its time", x.job(job, 2), UNKNOWN);
            due("order", x.order(0, 10, 100 + job), job);
            due("job(" + job + ", 2)", x.job(job, 2), 100 + job);
        }
        due("a thirteenth one", x.order(0, 10, 112), FULL);
        due("count(1)", x.count(1), 12);
        due("job(12, 2)", x.job(12, 2), UNKNOWN);
        due("job(11, 2)", x.job(11, 2), 111);
        x.cancel(0);
        due("one that is cancelled keeps its place", x.order(0, 10, 112), FULL);
    }

    private static void measureFrom10To150() {
        TypeWorkshop x = withCases(1, 0);
        write(x, "a");
        for (int measure : new int[] {MIN, -1, 0, 9, 151, 152, MAX}) {
            due("a measure of " + measure, x.order(0, measure, 0), BAD_VALUE);
        }
        due("a measure of 10", x.order(0, 10, 0), 0);
        due("a measure of 150", x.order(0, 150, 0), 1);
        due("job(0, 1)", x.job(0, 1), 10);
        due("job(1, 1)", x.job(1, 1), 150);
        due("gap(1, 0, 0)", x.gap(1, 0, 0), 148);
    }

    private static void fiveStates() {
        TypeWorkshop x = withCases(1, 500);
        x.castFount(0, 4);
        order(x, "a", 0, 10, 0);
        order(x, "a", 0, 10, 0);
        due("ordered", x.job(0, 3), 0);
        x.set(0);
        due("set", x.job(0, 3), 1);
        x.print(0);
        due("printed", x.job(0, 3), 2);
        x.distribute(0);
        due("distributed", x.job(0, 3), 3);
        x.cancel(1);
        due("cancelled", x.job(1, 3), 4);
        int[][] refusals = {{0, 3}, {1, 4}};
        for (int[] one : refusals) {
            due("set", x.set(one[0]), NOT_POSSIBLE);
            due("castMissing", x.castMissing(one[0]), NOT_POSSIBLE);
            due("print", x.print(one[0]), NOT_POSSIBLE);
            due("distribute", x.distribute(one[0]), NOT_POSSIBLE);
            due("cancel", x.cancel(one[0]), NOT_POSSIBLE);
            due("pieceAt", x.pieceAt(one[0], 0, 0), NOT_POSSIBLE);
            due("its last state stays", x.job(one[0], 3), one[1]);
        }
    }

    // ---- spacing

    private static void gapOfALineOfOneWord() {
        TypeWorkshop x = withCases(1, 2000);
        x.castFount(0, 9);
        order(x, "aa/a a/a a a", 0, 12, 0);
        due("gaps in all", x.job(0, 6), 1 + 1 + 2);
        int[] gaps = {1, 1, 2};
        for (int line = 0; line < 3; line++) {
            due("the last gap of line " + line, Math.min(x.gap(0, line, gaps[line] - 1), 0), 0);
            due("no gap behind it", x.gap(0, line, gaps[line]), NONE);
            due("no gap ahead of the first", x.gap(0, line, -1), NONE);
        }
        due("set(0)", x.set(0), 0);
        lineIs(x, 0, 0, "aa44");
        lineIs(x, 0, 1, "a44a");
        lineIs(x, 0, 2, "a21a21a");
    }

    private static void restOfALine() {
        TypeWorkshop x = withCases(1, 0);
        order(x, "abcde/z", 0, 29, 0);
        due("29 - (2 + 3 + 4 + 5 + 6)", x.gap(0, 0, 0), 9);
        due("29 - 2", x.gap(0, 1, 0), 27);
        order(x, "a e", 0, 29, 0);
        due("a blank has no width", x.gap(1, 0, 0), 21);
        order(x, "abcde", 0, 20, 0);
        due("all of it", x.gap(2, 0, 0), 0);
    }

    private static void gapsAre(String text, int measure, int... want) {
        TypeWorkshop x = withCases(1, 0);
        due("order of " + text, order(x, text, 0, measure, 0), 0);
        for (int gap = 0; gap < want.length; gap++) {
            due("gap " + gap + " of " + text + " at " + measure, x.gap(0, 0, gap), want[gap]);
        }
        due("no more gaps", x.gap(0, 0, want.length), NONE);
    }

    private static void restInGaps() {
        gapsAre("a a a a", 11, 1, 1, 1);
        gapsAre("a a a a", 12, 2, 1, 1);
        gapsAre("a a a a", 13, 2, 2, 1);
        gapsAre("a a a a", 14, 2, 2, 2);
        gapsAre("a a a a", 15, 3, 2, 2);
        gapsAre("a a a a", 150, 48, 47, 47);
        gapsAre("a a", 150, 146);
        gapsAre("a", 149, 147);
        int[] ones = new int[29];
        Arrays.fill(ones, 1);
        gapsAre("a" + times(" a", 29), 89, ones);
        ones[0] = 2;
        gapsAre("a" + times(" a", 29), 90, ones);
        Arrays.fill(ones, 2);
        ones[28] = 1;
        gapsAre("a" + times(" a", 29), 60 + 57, ones);
        TypeWorkshop x = withCases(1, 0);
        order(x, "a a a/a a a", 0, 13, 0);
        due("the remainder is told anew in each line", x.gap(0, 1, 0), 4);
        due("the remainder is told anew in each line", x.gap(0, 1, 1), 3);
    }

    private static int ordered(String text, int measure) {
        return order(withCases(1, 0), text, 0, measure, 0);
    }

    private static void tooWide() {
        due("one word, no rest", ordered("ee", 12), 0);
        due("one word, a rest of -1", ordered("ee", 11), NOT_POSSIBLE);
        due("two words, a rest of 1", ordered("e e", 13), 0);
        due("two words, no rest", ordered("e e", 12), NOT_POSSIBLE);
        due("two words, a rest of -1", ordered("e e", 11), NOT_POSSIBLE);
        due("four words, a rest of 3", ordered("a a a a", 11), 0);
        due("four words, a rest of 2", ordered("a a a a", 10), NOT_POSSIBLE);
        due("thirty words, a rest of 29", ordered("a" + times(" a", 29), 89), 0);
        due("thirty words, a rest of 28", ordered("a" + times(" a", 29), 88), NOT_POSSIBLE);
        due("the widest word", ordered(times("e", 25), 150), 0);
        due("one wider", ordered(times("e", 25) + "a", 150), NOT_POSSIBLE);
        due("the widest text", ordered(times("e", 60), 150), NOT_POSSIBLE);
        due("the first line", ordered("ee e/a/a", 18), NOT_POSSIBLE);
        due("a line between", ordered("a/ee e/a", 18), NOT_POSSIBLE);
        due("the last line", ordered("a/a/ee e", 18), NOT_POSSIBLE);
        due("none of them", ordered("ee e/ee e/ee e", 19), 0);
    }

    /** A job is set with so many spaces alone; the lines are those that are due. */
    private static void filled(int fours, int twos, int ones, String text, int measure, String... want) {
        TypeWorkshop x = withCases(2, 5000);
        castSome(x, 0, 0, 60);
        castSome(x, 0, 4, 30);
        castSome(x, 0, FOUR_WIDE, fours);
        castSome(x, 0, TWO_WIDE, twos);
        castSome(x, 0, ONE_WIDE, ones);
        order(x, text, 0, measure, 0);
        due("set of " + text, x.set(0), 0);
        for (int line = 0; line < want.length; line++) {
            lineIs(x, 0, line, want[line]);
        }
    }

    private static void asManyAsFitIn() {
        filled(9, 9, 9, "eee", 18, "eee");
        filled(9, 9, 9, "e aa", 11, "e1aa");
        filled(9, 9, 9, "e a", 10, "e2a");
        filled(9, 9, 9, "e a", 11, "e21a");
        filled(9, 9, 9, "e a", 12, "e4a");
        filled(9, 9, 9, "e a", 13, "e41a");
        filled(9, 9, 9, "e a", 14, "e42a");
        filled(9, 9, 9, "e a", 15, "e421a");
        filled(9, 9, 9, "e a", 16, "e44a");
    }

    private static void asManyAsAreLeft() {
        filled(2, 9, 9, "e a", 16, "e44a");
        filled(1, 9, 9, "e a", 16, "e422a");
        filled(0, 9, 9, "e a", 16, "e2222a");
        filled(1, 1, 9, "e a", 16, "e4211a");
        filled(0, 4, 0, "e a", 16, "e2222a");
        filled(0, 3, 2, "e a", 16, "e22211a");
        filled(0, 0, 8, "e a", 16, "e11111111a");
        filled(1, 0, 9, "e a", 14, "e411a");
        filled(0, 0, 1, "e aa", 11, "e1aa");
    }

    private static void leftOverByTheGapsAhead() {
        filled(3, 1, 99, "e a/e a", 16, "e44a", "e4211a");
        filled(2, 1, 99, "e a/e a", 16, "e44a", "e211111" + "1a");
        filled(1, 1, 99, "e a a", 20, "e41a2111a");
        filled(1, 1, 9, "e a a", 17, "e4a21a");
        filled(1, 1, 99, "aaaaa/a/a", 14, "aaaaa4", "a2" + times("1", 10), "a" + times("1", 12));
        filled(1, 2, 9, "e aa/aaaaa aa/a e", 15, "e41aa", "aaaaa1aa", "a2" + "21" + "11e");
    }

    private static void spacesOfAllCases() {
        TypeWorkshop x = withCases(3, 500);
        x.cast(1, 0, 2);
        x.cast(0, FOUR_WIDE, 1);
        x.cast(2, FOUR_WIDE, 1);
        x.cast(2, TWO_WIDE, 1);
        x.cast(0, ONE_WIDE, 1);
        order(x, "a", 1, 13, 0);
        x.order(1, 13, 0);
        due("need(0, 26)", x.need(0, 26), 2);
        due("set(0)", x.set(0), 2 + 1 + 1);
        lineIs(x, 0, 0, "a4421");
        due("what is in a forme is not there for another job", x.need(1, 28), 11);
        due("need(1, 26)", x.need(1, 26), 0);
    }

    // ---- setting

    private static void lettersNeeded() {
        TypeWorkshop x = withCases(1, 0);
        order(x, "aba/a bz", 0, 20, 0);
        int[] want = new int[26];
        want[0] = 3;
        want[1] = 2;
        want[25] = 1;
        for (int sort = 0; sort < 26; sort++) {
            due("need(0, " + sort + ")", x.need(0, sort), want[sort]);
        }
        order(x, times("z", 60), 0, 120, 0);
        due("need(1, 25)", x.need(1, 25), 60);
    }

    private static void missingPieces() {
        TypeWorkshop x = withCases(6, 5000);
        order(x, "aaaaaaa", 2, 24, 0);
        due("all 7", x.missing(0, 0), 7);
        for (int box = 0; box < 6; box++) {
            x.cast(box, 0, 1);
            due("all cases together", x.missing(0, 0), 6 - box);
        }
        x.cast(2, 0, 1);
        due("none", x.missing(0, 0), 0);
        x.cast(2, 0, 1);
        due("one more than needed", x.missing(0, 0), 0);
        due("all 10 ones", x.missing(0, ONE_WIDE), 10);
        x.cast(5, ONE_WIDE, 9);
        due("a one", x.missing(0, ONE_WIDE), 1);
        x.cast(0, TWO_WIDE, 1);
        due("none, as a two stands in for two of them", x.missing(0, ONE_WIDE), 0);
        x.melt(0, TWO_WIDE, 1);
        x.cast(0, ONE_WIDE, 1);
        due("none", x.missing(0, ONE_WIDE), 0);
        due("none is needed", x.missing(0, 1), 0);
    }

    private static void wideSpacesAreNeverMissing() {
        TypeWorkshop x = withCases(1, 5000);
        order(x, "a/a/a/a", 0, 150, 0);
        for (int fours = 0; fours < 3; fours++) {
            due("missing(0, 26)", x.missing(0, FOUR_WIDE), 0);
            due("missing(0, 27)", x.missing(0, TWO_WIDE), 0);
            due("need(0, 26)", x.need(0, FOUR_WIDE), fours);
            due("need(0, 27)", x.need(0, TWO_WIDE), 0);
            due("need(0, 28)", x.need(0, ONE_WIDE), 4 * 148 - 4 * fours);
            due("missing(0, 28)", x.missing(0, ONE_WIDE), 4 * 148 - 4 * fours);
            x.cast(0, FOUR_WIDE, 1);
        }
    }

    private static void setIfNoneIsMissing() {
        TypeWorkshop x = withCases(2, 500);
        order(x, "aab", 0, 12, 0);
        x.cast(0, 0, 1);
        x.cast(1, 0, 1);
        x.cast(0, ONE_WIDE, 5);
        due("a letter is missing", x.set(0), NOT_POSSIBLE);
        x.cast(1, 1, 1);
        due("just enough", x.set(0), 2);
        due("all are taken", x.count(3), 0);
        x.undo();
        x.melt(0, ONE_WIDE, 1);
        due("a one is missing", x.set(0), NOT_POSSIBLE);
        x.undo();
        x.melt(1, 0, 1);
        due("one of two equal letters is missing", x.set(0), NOT_POSSIBLE);
        x.undo();
        due("just enough again", x.set(0), 2);
    }

    private static void takenFromOwnThenByNumber() {
        int[] order = {3, 0, 1, 2, 4, 5};
        for (int count = 5; count <= 12; count++) {
            TypeWorkshop x = withCases(6, 500);
            for (int box = 0; box < 6; box++) {
                x.cast(box, 0, 2);
            }
            due("order", order(x, times("a", count), 3, Math.max(10, 2 * count), 0), 0);
            due("set(0)", x.set(0), count - 2);
            int left = count;
            for (int box : order) {
                int here = Math.min(left, 2);
                left -= here;
                due(count + " of case " + box, x.taken(0, box, 0), here);
                due("left in case " + box, x.pieces(box, 0), 2 - here);
            }
        }
        TypeWorkshop x = withCases(2, 500);
        x.cast(0, 0, 5);
        x.cast(1, 0, 5);
        order(x, "aaaaa", 1, 10, 0);
        due("all of its own case", x.set(0), 0);
        due("the other one keeps its pieces", x.pieces(0, 0), 5);
    }

    private static void eighthIsWorn() {
        for (int n = 5; n <= 60; n++) {
            TypeWorkshop x = withCases(1, 500);
            x.cast(0, 0, n);
            order(x, times("a", n), 0, 2 * n, 0);
            x.set(0);
            x.print(0);
            due("worn of " + n, x.distribute(0), n / 8);
            due("in the box", x.pieces(-1, 0), n / 8);
            due("back in the case", x.pieces(0, 0), n - n / 8);
        }
        TypeWorkshop x = withCases(2, 500);
        x.cast(0, 0, 7);
        x.cast(1, 0, 7);
        x.cast(0, 5, 7);
        order(x, times("a", 14) + times("f", 7), 0, 42, 0);
        x.set(0);
        x.print(0);
        due("7 of each case and sort", x.distribute(0), 0);
        x.cast(1, 0, 8);
        x.cast(0, 0, 1);
        order(x, times("a", 23), 0, 46, 0);
        x.set(1);
        x.print(1);
        due("8 of one, 15 of the other", x.distribute(1), 2);
        due("pieces(0, 0)", x.pieces(0, 0), 7);
        due("pieces(1, 0)", x.pieces(1, 0), 14);
    }

    private static void wornSpaces() {
        TypeWorkshop x = withCases(1, 500);
        x.cast(0, 0, 1);
        x.cast(0, FOUR_WIDE, 8);
        x.cast(0, TWO_WIDE, 16);
        x.cast(0, ONE_WIDE, 7);
        order(x, "a", 0, 2 + 32 + 32 + 7, 0);
        x.set(0);
        x.print(0);
        due("spaces are worn, too", x.distribute(0), 1 + 2);
        due("pieces(-1, 26)", x.pieces(-1, FOUR_WIDE), 1);
        due("pieces(-1, 27)", x.pieces(-1, TWO_WIDE), 2);
        due("pieces(-1, 28)", x.pieces(-1, ONE_WIDE), 0);
    }

    /** Of 16 pieces 2 are worn; what comes back finds room for so many. */
    private static void backToACase(int before, boolean wears, int wantBox) {
        TypeWorkshop x = withCases(2, 2000);
        x.cast(1, 0, 16);
        order(x, times("a", 16), 0, 32, 0);
        due("set(0)", x.set(0), 16);
        castSome(x, 1, 0, before);
        if (wears) {
            x.print(0);
        }
        due("with " + before + " in the case", wears ? x.distribute(0) : x.cancel(0), wears ? wantBox : 16 - wantBox);
        due("pieces(1, 0)", x.pieces(1, 0), before + 16 - wantBox);
        due("pieces(0, 0), the other case has room", x.pieces(0, 0), 0);
        due("pieces(-1, 0)", x.pieces(-1, 0), wantBox);
    }

    private static void backAsFarAsNot99() {
        backToACase(0, true, 2);
        backToACase(84, true, 2);
        backToACase(85, true, 2);
        backToACase(86, true, 3);
        backToACase(98, true, 15);
        backToACase(99, true, 16);
        backToACase(83, false, 0);
        backToACase(84, false, 1);
        backToACase(98, false, 15);
        backToACase(99, false, 16);
    }

    // ---- metal

    private static void castAndMelt() {
        TypeWorkshop x = withCases(1, 9);
        due("4 of 2 wide", x.cast(0, 0, 4), 4);
        due("left", x.count(2), 1);
        due("one more", x.cast(0, 0, 1), NOT_POSSIBLE);
        due("all back", x.melt(0, 0, 4), 9);
        due("no dross of pieces of a case", x.count(7), 0);
    }

    private static void drossOf(int ones, int wantDross) {
        TypeWorkshop x = withCases(1, 2000);
        x.cast(0, 25, 1);
        bringToBox(x, ONE_WIDE, ones);
        int pot = x.count(2);
        due("metal of " + ones, x.meltBox(), ones - wantDross);
        due("dross of " + ones, x.count(7), wantDross);
        due("pot", x.count(2), pot + ones - wantDross);
    }

    private static void drossIsAFiftieth() {
        drossOf(8, 0);
        drossOf(49, 0);
        drossOf(50, 1);
        drossOf(51, 1);
        drossOf(99, 1);
        TypeWorkshop x = withCases(1, 2000);
        x.cast(0, 25, 1);
        bringToBox(x, ONE_WIDE, 30);
        bringToBox(x, FOUR_WIDE, 5);
        due("of all its metal, not of each sort", x.meltBox(), 49);
        bringToBox(x, ONE_WIDE, 50);
        bringToBox(x, ONE_WIDE, 49);
        due("99", x.meltBox(), 98);
        bringToBox(x, ONE_WIDE, 50);
        bringToBox(x, ONE_WIDE, 50);
        due("100", x.meltBox(), 98);
        due("all dross", x.count(7), 1 + 1 + 2);
        due("all metal is somewhere", x.count(2) + x.count(3) + x.count(7), 2000);
    }

    private static void potAbove100000() {
        TypeWorkshop x = withCases(1, 100000);
        due("full", x.buy(1), FULL);
        x.cast(0, 25, 99);
        due("what was taken can be bought", x.buy(198), 100000);
        due("full again", x.buy(1), FULL);
        due("by melting", x.melt(0, 25, 98), 100196);
        due("full by far", x.buy(1), FULL);
        x.cast(0, ONE_WIDE, 98);
        bringToBox(x, 0, 49);
        int pot = x.count(2);
        due("above it, too", Math.max(pot, 100000), pot);
        due("by melting the box", x.meltBox(), 98 - 1);
        due("pot", x.count(2), pot + 97);
    }

    // ---- history

    private static void fiveStatesOfHistory() {
        TypeWorkshop x = new TypeWorkshop();
        due("empty at first", x.count(14), 0);
        due("undo()", x.undo(), NONE);
        for (int day = 1; day <= 12; day++) {
            x.pass(1);
            due("states after " + day, x.count(14), Math.min(day, 5));
        }
        for (int left = 4; left >= 0; left--) {
            due("undo()", x.undo(), left);
            due("the latest one", x.count(11), 7 + left);
        }
        due("older ones are dropped", x.undo(), NONE);
        due("count(11)", x.count(11), 7);
        x.pass(3);
        due("one again", x.count(14), 1);
        due("undo()", x.undo(), 0);
        due("count(11)", x.count(11), 7);
    }

    private static void notActs() {
        TypeWorkshop x = withCases(1, 500);
        x.castFount(0, 2);
        order(x, "ab", 0, 12, 0);
        x.undo();
        due("undo() is no act", x.count(14), 3);
        x.type('c');
        due("type() is no act", x.count(14), 3);
        x.keep();
        due("keep() is no act", x.count(14), 3);
        x.clearText();
        due("clearText() is no act", x.count(14), 3);
        x.urgent();
        for (int what = 0; what <= 15; what++) {
            x.count(what);
            x.job(0, what);
            x.pieces(0, what);
            x.need(0, what);
            x.missing(0, what);
            x.taken(0, 0, what);
            x.gap(0, 0, what);
            x.pieceAt(0, 0, what);
        }
        due("nothing that is told is an act", x.count(14), 3);
    }

    private static void snapshotAlone() {
        TypeWorkshop x = new TypeWorkshop();
        due("empty at first", x.restore(), NONE);
        due("and still", x.restore(), NONE);
        due("keep() of the first state", x.keep(), 0);
        x.pass(1);
        due("restore()", x.restore(), 0);
        due("count(11)", x.count(11), 0);
        x.pass(2);
        x.keep();
        x.pass(3);
        x.keep();
        x.pass(4);
        x.restore();
        due("the last one alone", x.count(11), 5);
    }

    private static TypeWorkshop withAJobAndASnapshot() {
        TypeWorkshop x = withCases(1, 500);
        order(x, "ab c", 0, 20, 0);
        x.keep();
        return x;
    }

    private static int typeAnother(TypeWorkshop x) {
        write(x, "zzz");
        return x.count(15);
    }

    private static void stateIsAllButText() {
        String before = state(TermsEdgeTests::withAJobAndASnapshot);
        Supplier<TypeWorkshop> made = then(TermsEdgeTests::withAJobAndASnapshot, TermsEdgeTests::typeAnother);
        sameText("the job keeps its text", state(made), before);
        made = then(then(made, x -> x.cancel(0)), TypeWorkshop::restore);
        due("restore() leaves the text", made.get().count(15), 3);
        sameText("restore() brings all back", state(made), before);
        made = then(then(then(made, x -> x.type('z')), TypeWorkshop::undo), TypeWorkshop::undo);
        due("undo() leaves the text", made.get().count(15), 4);
        sameText("undo() brings all back", state(made), before);
        TypeWorkshop x = made.get();
        due("the text is still that", x.order(0, 20, 0), 1);
        due("need(1, 25)", x.need(1, 25), 4);
        x.keep();
        x.undo();
        due("the snapshot is no part of a state", x.restore(), 2);
        due("nor is the history: 3 states and the one that restore() records", x.count(14), 3 + 1);
    }

    private static int doAll(TypeWorkshop x) {
        x.buy(2000);
        x.addCase();
        x.cast(0, 25, 8);
        bringToBox(x, ONE_WIDE, 50);
        x.meltBox();
        bringToBox(x, ONE_WIDE, 8);
        x.pass(1);
        x.cast(0, 0, 30);
        for (int i = 0; i < 2; i++) {
            due("set", x.set(order(x, "aaaaa", 0, 10, 0)), 0);
        }
        return x.print(2);
    }

    private static void stateIsAllThatIsCounted() {
        String first = state(TypeWorkshop::new);
        Supplier<TypeWorkshop> made = then(then(TypeWorkshop::new, TypeWorkshop::keep), TermsEdgeTests::doAll);
        for (int what = 0; what <= 13; what++) {
            Check.holds("count(" + what + ") is above 0", made.get().count(what) > 0);
        }
        String then = state(made);
        made = then(made, TypeWorkshop::restore);
        sameText("restore() brings all of it back", state(made), first);
        made = then(made, TypeWorkshop::undo);
        sameText("undo() brings all of it back", state(made), then);
    }

    private static void constants() {
        due("UNKNOWN", TypeWorkshop.UNKNOWN, -1);
        due("BAD_VALUE", TypeWorkshop.BAD_VALUE, -2);
        due("FULL", TypeWorkshop.FULL, -3);
        due("NOT_POSSIBLE", TypeWorkshop.NOT_POSSIBLE, -4);
        due("NONE", TypeWorkshop.NONE, -5);
    }

    private static void calls512() {
        TypeWorkshop x = new TypeWorkshop();
        for (int call = 1; call <= 512; call++) {
            due("call " + call, x.pass(1), call);
        }
        x = new TypeWorkshop();
        for (int call = 1; call <= 512; call++) {
            due("call " + call, call % 2 == 1 ? x.addCase() : x.undo(), 0);
        }
        x = withCases(1, 0);
        write(x, "a" + times("/a", 29));
        int calls = 1 + 1 + 59;
        for (int job = 0; calls < 512; calls++, job++) {
            due("call " + (calls + 1), x.order(0, 150, 9999), job < 12 ? job : FULL);
        }
    }

    private static void sorts() {
        part("There are 29 sorts: 0 to 25 are the letters a to z, 26, 27 and 28 are spaces.", TermsEdgeTests::sortsFrom0To28);
        part("The width of the letter k is 2 + k % 5 (so a is 2, e is 6, f is 2)", TermsEdgeTests::widthsOfLetters);
        part("the spaces 26, 27 and 28 are 4, 2 and 1 wide.", TermsEdgeTests::widthsOfSpaces);
        part("A piece of a sort has as much metal as its width.", TermsEdgeTests::metalOfAPiece);
    }

    private static void cases() {
        part("There are at most 6 cases, numbered from 0.", TermsEdgeTests::sixCasesFrom0);
        part("A case has 0 to 99 pieces of each sort (0 at first).", TermsEdgeTests::piecesFrom0To99);
        part("The pot has metal (0 at first).", TermsEdgeTests::potIsEmptyAtFirst);
        part("The box has worn pieces of each sort (none at first).", TermsEdgeTests::boxIsEmptyAtFirst);
        part("The day is 0 at first.", TermsEdgeTests::dayIs0AtFirst);
    }

    private static void texts() {
        part("There is a text of at most 60 characters, empty at first.", TermsEdgeTests::textOf60);
        part("The text of a job is one or more lines, with \"/\" between two", TermsEdgeTests::linesOfAText);
        part("a line is one or more words, with one blank between two", TermsEdgeTests::wordsOfALine);
        part("a word is one or more small letters (a to z).", TermsEdgeTests::lettersOfAWord);
        part("The fault of the text is the index, from 0, of the first character that is not allowed at its place, or the"
            + " length of the text if it ends too early (the empty text does).", TermsEdgeTests::faultOfAText);
    }

    private static void jobs() {
        part("There are at most 12 jobs, numbered from 0 in the order in which they were ordered.",
            TermsEdgeTests::twelveJobsFrom0);
        part("A job has a case, a measure (10 to 150), ..", TermsEdgeTests::measureFrom10To150);
        part(".. and is in one of five states: 0 ordered (at first), 1 set, 2 printed, 3 distributed, 4 cancelled.",
            TermsEdgeTests::fiveStates);
    }

    private static void spacing() {
        part("A line has a gap between each two words; a line of one word has one gap, behind it.",
            TermsEdgeTests::gapOfALineOfOneWord);
        part("The rest of a line is the measure minus the widths of all its letters.", TermsEdgeTests::restOfALine);
        part("With g gaps, each is rest / g wide (rounded down), and each of the first rest % g gaps is 1 wider.",
            TermsEdgeTests::restInGaps);
        part("(A line whose rest is less than the number of gaps between its words, or less than 0, is too wide.)",
            TermsEdgeTests::tooWide);
        part("first with as many 4 wide ones as fit in .., then with as many 2 wide ones as fit in the rest of it ..,"
            + " then with 1 wide ones.", TermsEdgeTests::asManyAsFitIn);
        part("first with as many 4 wide ones as .. are left, then with as many 2 wide ones as .. are left",
            TermsEdgeTests::asManyAsAreLeft);
        part(".. are left over by the gaps ahead of it in the whole job", TermsEdgeTests::leftOverByTheGapsAhead);
        part("the spaces that are there for the job (all pieces of all cases)", TermsEdgeTests::spacesOfAllCases);
    }

    private static void setting() {
        part("A job needs each of its letters as often as it stands in the text", TermsEdgeTests::lettersNeeded);
        part("A sort is missing by as many pieces as are needed more than all cases have together",
            TermsEdgeTests::missingPieces);
        part("(of 1 wide spaces those are missing that would be needed to fill all gaps; 4 and 2 wide ones are never missing)",
            TermsEdgeTests::wideSpacesAreNeverMissing);
        part("A job can be set if no sort is missing.", TermsEdgeTests::setIfNoneIsMissing);
        part("the pieces are taken from its own case as far as this has them, then from the other cases, in the order of"
            + " their numbers.", TermsEdgeTests::takenFromOwnThenByNumber);
        part("of n such pieces, n / 8 (rounded down) are worn and come to the box", TermsEdgeTests::eighthIsWorn);
        part("for each sort ..: of n such pieces, n / 8 (rounded down) are worn", TermsEdgeTests::wornSpaces);
        part("and the others go back to this case, as far as it has not 99 of them; those for which there is no room come to"
            + " the box, too", TermsEdgeTests::backAsFarAsNot99);
    }

    private static void metalAndHistory() {
        part("To cast a piece takes its metal from the pot; to melt one brings it there.", TermsEdgeTests::castAndMelt);
        part("When the box is melted, a fiftieth of all its metal (rounded down) is lost as dross, and the rest comes to the"
            + " pot.", TermsEdgeTests::drossIsAFiftieth);
        part("(By melting, the pot can have more than the 100000 to which buying can bring it.)",
            TermsEdgeTests::potAbove100000);
        part("A history of at most 5 states is kept; when one more is recorded, the oldest one is dropped",
            TermsEdgeTests::fiveStatesOfHistory);
        part("Each call of a method that is described as an act .. records the state that was before it.",
            TermsEdgeTests::notActs);
        part("There is one snapshot, empty at first.", TermsEdgeTests::snapshotAlone);
        part("A state is everything but the text buffer (the jobs keep their texts), the history and the snapshot.",
            TermsEdgeTests::stateIsAllButText);
        part("A state is everything", TermsEdgeTests::stateIsAllThatIsCounted);
        part("The constants", TermsEdgeTests::constants);
        part("An object is used for at most 512 calls after it has been made", TermsEdgeTests::calls512);
    }

    public static void main(String[] args) {
        sorts();
        cases();
        texts();
        jobs();
        spacing();
        setting();
        metalAndHistory();
        Check.end();
    }
}
