/** A workshop that lends type. The document that it follows is ../shared/DOC.md. */
public final class TypeWorkshop {
    public static final int UNKNOWN = -1;
    public static final int BAD_VALUE = -2;
    public static final int FULL = -3;
    public static final int NOT_POSSIBLE = -4;
    public static final int NONE = -5;

    private static final int LETTERS = 26;
    private static final int FOUR_WIDE = 26;
    private static final int TWO_WIDE = 27;
    private static final int ONE_WIDE = 28;
    private static final int SORTS = 29;
    private static final int CASES = 6;
    private static final int PIECES_OF_A_SORT = 99;
    private static final int JOBS = 12;
    private static final int TEXT_ROOM = 60;
    /** A line has a letter and a mark behind it at least, and so has a word. */
    private static final int LINES_OR_GAPS = 30;
    private static final int STATES = 5;
    private static final int WORN_BOX = -1;
    private static final int METAL_AT_ONCE = 20000;
    private static final int METAL_BY_BUYING = 100000;
    private static final int FOUNT = 9;
    private static final int LEAST_MEASURE = 10;
    private static final int MOST_MEASURE = 150;
    private static final int LAST_DUE_DAY = 9999;
    private static final int DAYS_AT_ONCE = 30;
    private static final int FAULT_BASE = -100;
    private static final int NO_FAULT = -1;

    private static final int ORDERED = 0;
    private static final int SET = 1;
    private static final int PRINTED = 2;
    private static final int DISTRIBUTED = 3;
    private static final int CANCELLED = 4;

    private final Draft draft = new Draft();
    private final State now = new State();
    /** From the oldest on; each is made when it is first used, and used again. */
    private final State[] history = new State[STATES];
    private int historyLength = 0;
    /** Null as long as none was taken. */
    private State snapshot = null;
    // These are filled anew by each call that uses them.
    private final Spacer spacer = new Spacer();
    private final int[] needed = new int[SORTS];
    private final int[] available = new int[SORTS];
    private final int[] wanted = new int[SORTS];

    public TypeWorkshop() {
    }

    // ---- metal and cases

    public int buy(int metal) {
        if (metal < 1 || metal > METAL_AT_ONCE) {
            return BAD_VALUE;
        }
        if (now.pot + metal > METAL_BY_BUYING) {
            return FULL;
        }
        recordState();
        now.pot += metal;
        now.bought += metal;
        return now.pot;
    }

    public int addCase() {
        if (now.caseCount >= CASES) {
            return FULL;
        }
        recordState();
        now.caseCount++;
        return now.caseCount - 1;
    }

    public int cast(int box, int sort, int count) {
        if (!isCase(box) || !isSort(sort)) {
            return UNKNOWN;
        }
        if (count < 1 || count > PIECES_OF_A_SORT) {
            return BAD_VALUE;
        }
        for (int other = 0; other < SORTS; other++) {
            wanted[other] = other == sort ? count : 0;
        }
        int answer = castWanted(box);
        return answer < 0 ? answer : now.held(box, sort);
    }

    public int castFount(int box, int count) {
        if (!isCase(box)) {
            return UNKNOWN;
        }
        if (count < 1 || count > FOUNT) {
            return BAD_VALUE;
        }
        for (int sort = 0; sort < SORTS; sort++) {
            wanted[sort] = sort < LETTERS ? count : 2 * count;
        }
        return castWanted(box);
    }

    public int melt(int box, int sort, int count) {
        if (!isCase(box) || !isSort(sort)) {
            return UNKNOWN;
        }
        if (count < 1 || count > PIECES_OF_A_SORT) {
            return BAD_VALUE;
        }
        if (now.held(box, sort) < count) {
            return NOT_POSSIBLE;
        }
        recordState();
        now.put(box, sort, -count);
        now.pot += count * widthOf(sort);
        now.meltedPieces += count;
        return now.pot;
    }

    public int meltBox() {
        int pieces = now.wornPieces();
        if (pieces == 0) {
            return NONE;
        }
        recordState();
        int metal = now.wornMetal();
        int dross = metal / 50;
        now.emptyWornBox();
        now.pot += metal - dross;
        now.dross += dross;
        now.meltedPieces += pieces;
        return metal - dross;
    }

    // ---- texts

    public int type(char character) {
        return draft.append(character) ? draft.length : FULL;
    }

    public int clearText() {
        int before = draft.length;
        draft.length = 0;
        return before;
    }

    // ---- jobs

    public int order(int box, int measure, int due) {
        if (!isCase(box)) {
            return UNKNOWN;
        }
        if (measure < LEAST_MEASURE || measure > MOST_MEASURE || due < 0 || due > LAST_DUE_DAY) {
            return BAD_VALUE;
        }
        int fault = draft.findFault();
        if (fault != NO_FAULT) {
            return FAULT_BASE - fault;
        }
        Layout layout = new Layout(draft, measure);
        if (layout.tooWide) {
            return NOT_POSSIBLE;
        }
        if (now.jobCount >= JOBS) {
            return FULL;
        }
        recordState();
        int number = now.jobCount;
        now.jobCount++;
        now.putJob(number, new Job(new Order(box, measure, due, layout), ORDERED, NONE, new int[0]));
        return number;
    }

    public int set(int job) {
        Job found = now.findJob(job);
        if (found == null) {
            return UNKNOWN;
        }
        if (found.state != ORDERED) {
            return NOT_POSSIBLE;
        }
        reckon(found);
        for (int sort = 0; sort < SORTS; sort++) {
            if (missingOf(sort) > 0) {
                return NOT_POSSIBLE;
            }
        }
        recordState();
        Job done = new Job(found.order, SET, NONE, takeNeeded(found.order.box));
        now.putJob(job, done);
        return done.borrowedPieces();
    }

    public int castMissing(int job) {
        Job found = now.findJob(job);
        if (found == null) {
            return UNKNOWN;
        }
        if (found.state != ORDERED) {
            return NOT_POSSIBLE;
        }
        reckon(found);
        int pieces = 0;
        for (int sort = 0; sort < SORTS; sort++) {
            wanted[sort] = missingOf(sort);
            pieces += wanted[sort];
        }
        return pieces == 0 ? NONE : castWanted(found.order.box);
    }

    public int print(int job) {
        Job found = now.findJob(job);
        if (found == null) {
            return UNKNOWN;
        }
        if (found.state != SET) {
            return NOT_POSSIBLE;
        }
        recordState();
        Job done = new Job(found.order, PRINTED, now.day, found.taken);
        now.putJob(job, done);
        return done.daysLate();
    }

    public int distribute(int job) {
        Job found = now.findJob(job);
        if (found == null) {
            return UNKNOWN;
        }
        if (found.state != PRINTED) {
            return NOT_POSSIBLE;
        }
        recordState();
        int toBox = giveBack(found, true);
        now.putJob(job, new Job(found.order, DISTRIBUTED, found.printedOn, new int[0]));
        return toBox;
    }

    public int cancel(int job) {
        Job found = now.findJob(job);
        if (found == null) {
            return UNKNOWN;
        }
        if (!found.isOpen()) {
            return NOT_POSSIBLE;
        }
        recordState();
        int toBox = giveBack(found, false);
        now.putJob(job, new Job(found.order, CANCELLED, NONE, new int[0]));
        return found.formePieces() - toBox;
    }

    public int pass(int days) {
        if (days < 1 || days > DAYS_AT_ONCE) {
            return BAD_VALUE;
        }
        recordState();
        now.day += days;
        return now.day;
    }

    // ---- history

    public int undo() {
        int last = historyLength - 1;
        if (last < 0 || last >= history.length || history[last] == null) {
            return NONE;
        }
        now.copyFrom(history[last]);
        historyLength = last;
        return historyLength;
    }

    public int keep() {
        if (snapshot == null) {
            snapshot = new State();
        }
        snapshot.copyFrom(now);
        return now.jobCount;
    }

    public int restore() {
        if (snapshot == null) {
            return NONE;
        }
        recordState();
        now.copyFrom(snapshot);
        return now.jobCount;
    }

    // ---- what is told

    public int pieces(int box, int sort) {
        if (!isSort(sort)) {
            return UNKNOWN;
        }
        if (box == WORN_BOX) {
            return now.worn[sort];
        }
        return isCase(box) ? now.held(box, sort) : UNKNOWN;
    }

    public int job(int job, int what) {
        Job found = now.findJob(job);
        if (found == null) {
            return UNKNOWN;
        }
        switch (what) {
            case 0: return found.order.box;
            case 1: return found.order.measure;
            case 2: return found.order.due;
            case 3: return found.state;
            case 4: return found.order.layout.lineCount;
            case 5: return found.order.layout.letterCount;
            case 6: return found.order.layout.gapCount;
            case 7: return found.formePieces();
            case 8: return found.borrowedPieces();
            case 9: return found.printedOn;
            case 10: return found.daysLate();
            default: return BAD_VALUE;
        }
    }

    public int need(int job, int sort) {
        Job found = now.findJob(job);
        if (found == null || !isSort(sort)) {
            return UNKNOWN;
        }
        reckon(found);
        return needed[sort];
    }

    public int missing(int job, int sort) {
        Job found = now.findJob(job);
        if (found == null || !isSort(sort)) {
            return UNKNOWN;
        }
        reckon(found);
        return missingOf(sort);
    }

    public int taken(int job, int box, int sort) {
        Job found = now.findJob(job);
        if (found == null || !isCase(box) || !isSort(sort)) {
            return UNKNOWN;
        }
        return found.takenFrom(box, sort);
    }

    public int gap(int job, int line, int gap) {
        Job found = now.findJob(job);
        if (found == null) {
            return UNKNOWN;
        }
        Layout layout = found.order.layout;
        if (!layout.hasLine(line)) {
            return NONE;
        }
        int first = layout.firstGap(line);
        if (gap < 0 || gap >= layout.gapsUpTo[line] - first) {
            return NONE;
        }
        return layout.gapWidth(first + gap);
    }

    public int pieceAt(int job, int line, int index) {
        Job found = now.findJob(job);
        if (found == null) {
            return UNKNOWN;
        }
        if (!found.hasForme()) {
            return NOT_POSSIBLE;
        }
        if (!found.order.layout.hasLine(line) || index < 0) {
            return NONE;
        }
        return findPiece(found, line, index);
    }

    public int urgent() {
        int best = NONE;
        int bestDue = 0;
        for (int number = 0; number < JOBS; number++) {
            Job job = now.findJob(number);
            if (job != null && job.isOpen() && (best == NONE || job.order.due < bestDue)) {
                best = number;
                bestDue = job.order.due;
            }
        }
        return best;
    }

    public int count(int what) {
        switch (what) {
            case 0: return now.caseCount;
            case 1: return now.jobCount;
            case 2: return now.pot;
            case 3: return now.metalInCases();
            case 4: return now.metalInFormes();
            case 5: return now.wornMetal();
            case 6: return now.bought;
            case 7: return now.dross;
            case 8: return now.castPieces;
            case 9: return now.meltedPieces;
            case 10: return now.wornPieces();
            case 11: return now.day;
            case 12: return now.allDaysLate();
            case 13: return now.overdueJobs();
            case 14: return historyLength;
            case 15: return draft.length;
            default: return BAD_VALUE;
        }
    }

    // ---- helpers

    private boolean isCase(int box) {
        return box >= 0 && box < now.caseCount && box < CASES;
    }

    private static boolean isSort(int sort) {
        return sort >= 0 && sort < SORTS;
    }

    private static boolean isLetter(char sign) {
        return sign >= 'a' && sign <= 'z';
    }

    /** The width of a piece, which is its metal, too. */
    private static int widthOf(int sort) {
        switch (sort) {
            case FOUR_WIDE: return 4;
            case TWO_WIDE: return 2;
            case ONE_WIDE: return 1;
            default: return 2 + sort % 5;
        }
    }

    private void recordState() {
        if (historyLength >= STATES) {
            dropOldestState();
        }
        if (historyLength < 0 || historyLength >= history.length) {
            return;
        }
        if (history[historyLength] == null) {
            history[historyLength] = new State();
        }
        history[historyLength].copyFrom(now);
        historyLength++;
    }

    private void dropOldestState() {
        State oldest = history[0];
        for (int i = 1; i < history.length; i++) {
            history[i - 1] = history[i];
        }
        // It goes behind the others so that its rows are used again.
        history[history.length - 1] = oldest;
        historyLength--;
    }

    /** Casts what stands in the row of wanted pieces, as one act; answers how many they are, or an error. */
    private int castWanted(int box) {
        int metal = 0;
        int pieces = 0;
        for (int sort = 0; sort < SORTS; sort++) {
            if (now.held(box, sort) + wanted[sort] > PIECES_OF_A_SORT) {
                return FULL;
            }
            metal += wanted[sort] * widthOf(sort);
            pieces += wanted[sort];
        }
        if (metal > now.pot) {
            return NOT_POSSIBLE;
        }
        recordState();
        for (int sort = 0; sort < SORTS; sort++) {
            now.put(box, sort, wanted[sort]);
        }
        now.pot -= metal;
        now.castPieces += pieces;
        return pieces;
    }

    /** Fills the rows of needed and of available pieces for a job, its own pieces counted as available. */
    private void reckon(Job job) {
        Layout layout = job.order.layout;
        for (int sort = 0; sort < SORTS; sort++) {
            available[sort] = now.heldInAll(sort) + job.takenInAll(sort);
        }
        for (int letter = 0; letter < LETTERS; letter++) {
            needed[letter] = layout.letters[letter];
        }
        spacer.begin(available[FOUR_WIDE], available[TWO_WIDE]);
        for (int gap = 0; gap < layout.gapCount; gap++) {
            spacer.fill(layout.gapWidth(gap));
        }
        needed[FOUR_WIDE] = spacer.allFours;
        needed[TWO_WIDE] = spacer.allTwos;
        needed[ONE_WIDE] = spacer.allOnes;
    }

    /** Of what reckon() found last. */
    private int missingOf(int sort) {
        return Math.max(0, needed[sort] - available[sort]);
    }

    /** Takes what reckon() found last out of the cases; answers what came from where. */
    private int[] takeNeeded(int ownBox) {
        int[] taken = new int[CASES * SORTS];
        for (int sort = 0; sort < SORTS; sort++) {
            int left = needed[sort] - takePieces(taken, ownBox, sort, needed[sort]);
            for (int box = 0; box < CASES; box++) {
                if (box != ownBox) {
                    left -= takePieces(taken, box, sort, left);
                }
            }
        }
        return taken;
    }

    private int takePieces(int[] taken, int box, int sort, int atMost) {
        int pieces = Math.min(now.held(box, sort), atMost);
        int slot = slotOf(box, sort);
        if (slot < 0 || slot >= taken.length) {
            return 0;
        }
        taken[slot] += pieces;
        now.put(box, sort, -pieces);
        return pieces;
    }

    private static int slotOf(int box, int sort) {
        return box * SORTS + sort;
    }

    /** Gives the pieces of a forme back; answers how many come to the box. */
    private int giveBack(Job job, boolean wears) {
        int toBox = 0;
        for (int box = 0; box < CASES; box++) {
            for (int sort = 0; sort < SORTS; sort++) {
                int pieces = job.takenFrom(box, sort);
                int worn = wears ? pieces / 8 : 0;
                int back = Math.min(pieces - worn, PIECES_OF_A_SORT - now.held(box, sort));
                now.put(box, sort, back);
                now.worn[sort] += pieces - back;
                toBox += pieces - back;
            }
        }
        return toBox;
    }

    /**
     * Finds a piece in a line of a forme. The gaps are filled anew from the spaces of the forme: each was filled with
     * as many as fitted in and were left, and that comes out the same whether those that no gap used are there or not.
     */
    private int findPiece(Job job, int line, int index) {
        Layout layout = job.order.layout;
        spacer.begin(job.takenInAll(FOUR_WIDE), job.takenInAll(TWO_WIDE));
        int gap = layout.firstGap(line);
        for (int ahead = 0; ahead < gap; ahead++) {
            spacer.fill(layout.gapWidth(ahead));
        }
        int left = index;
        for (int at = layout.lineStart(line); at < layout.lineEnds[line]; at++) {
            char sign = layout.signAt(at);
            if (isLetter(sign)) {
                if (left == 0) {
                    return sign;
                }
                left--;
            } else {
                spacer.fill(layout.gapWidth(gap));
                if (left < spacer.pieceCount()) {
                    return spacer.digitAt(left);
                }
                left -= spacer.pieceCount();
                gap++;
            }
        }
        // Only a line of one word has a gap that no blank stands for.
        if (gap < layout.gapsUpTo[line]) {
            spacer.fill(layout.gapWidth(gap));
            if (left < spacer.pieceCount()) {
                return spacer.digitAt(left);
            }
        }
        return NONE;
    }

    // ---- classes

    /** The text that is typed. It is no part of a state. */
    private static final class Draft {
        final char[] signs = new char[TEXT_ROOM];
        int length = 0;

        boolean append(char sign) {
            if (length < 0 || length >= signs.length) {
                return false;
            }
            signs[length] = sign;
            length++;
            return true;
        }

        int findFault() {
            boolean letterDue = true;
            for (int i = 0; i < length && i < signs.length; i++) {
                boolean letter = isLetter(signs[i]);
                boolean mark = signs[i] == ' ' || signs[i] == '/';
                if (!letter && (letterDue || !mark)) {
                    return i;
                }
                letterDue = !letter;
            }
            return letterDue ? length : NO_FAULT;
        }
    }

    /** A text without a fault in its lines and gaps. It never changes once it is made. */
    private static final class Layout {
        final char[] text = new char[TEXT_ROOM];
        final int[] letters = new int[LETTERS];
        final int[] lineEnds = new int[LINES_OR_GAPS];
        /** For each line the number of gaps in it and in those ahead of it. */
        final int[] gapsUpTo = new int[LINES_OR_GAPS];
        final int[] gapWidths = new int[LINES_OR_GAPS];
        int lineCount = 0;
        int letterCount = 0;
        int gapCount = 0;
        boolean tooWide = false;

        Layout(Draft draft, int measure) {
            int start = 0;
            int length = Math.min(draft.length, TEXT_ROOM);
            for (int i = 0; i < length; i++) {
                text[i] = draft.signs[i];
                if (text[i] == '/') {
                    addLine(start, i, measure);
                    start = i + 1;
                }
            }
            addLine(start, length, measure);
        }

        private void addLine(int start, int end, int measure) {
            int rest = measure;
            int blanks = 0;
            for (int i = start; i < end && i < text.length; i++) {
                if (isLetter(text[i])) {
                    rest -= widthOf(text[i] - 'a');
                    letters[text[i] - 'a']++;
                    letterCount++;
                } else {
                    blanks++;
                }
            }
            // As there are no fewer than no blanks, this finds a rest below 0, too.
            if (rest < blanks) {
                tooWide = true;
            }
            addGaps(Math.max(rest, 0), Math.max(blanks, 1));
            if (lineCount < LINES_OR_GAPS) {
                lineEnds[lineCount] = end;
                gapsUpTo[lineCount] = gapCount;
                lineCount++;
            }
        }

        private void addGaps(int rest, int gaps) {
            if (gaps < 1) {
                return;
            }
            for (int i = 0; i < gaps && gapCount < gapWidths.length; i++) {
                gapWidths[gapCount] = rest / gaps + (i < rest % gaps ? 1 : 0);
                gapCount++;
            }
        }

        boolean hasLine(int line) {
            return line >= 0 && line < lineCount && line < LINES_OR_GAPS;
        }

        int lineStart(int line) {
            return line > 0 && line < lineEnds.length ? lineEnds[line - 1] + 1 : 0;
        }

        int firstGap(int line) {
            return line > 0 && line < gapsUpTo.length ? gapsUpTo[line - 1] : 0;
        }

        int gapWidth(int gap) {
            return gap >= 0 && gap < gapWidths.length ? gapWidths[gap] : 0;
        }

        char signAt(int index) {
            return index >= 0 && index < text.length ? text[index] : ' ';
        }
    }

    /** What is agreed on when a job is ordered. It never changes. */
    private static final class Order {
        final int box;
        final int measure;
        final int due;
        final Layout layout;

        Order(int box, int measure, int due, Layout layout) {
            this.box = box;
            this.measure = measure;
            this.due = due;
            this.layout = layout;
        }
    }

    /** How far an order has come. It never changes: a step makes a new one, so that earlier states keep theirs. */
    private static final class Job {
        final Order order;
        final int state;
        /** NONE if it was not printed. */
        final int printedOn;
        /** The pieces in the forme by case and sort; without elements if there is no forme. */
        final int[] taken;

        Job(Order order, int state, int printedOn, int[] taken) {
            this.order = order;
            this.state = state;
            this.printedOn = printedOn;
            this.taken = taken;
        }

        boolean isOpen() {
            return state == ORDERED || state == SET;
        }

        boolean hasForme() {
            return state == SET || state == PRINTED;
        }

        int daysLate() {
            return printedOn == NONE ? NONE : Math.max(0, printedOn - order.due);
        }

        int takenFrom(int box, int sort) {
            int slot = slotOf(box, sort);
            return slot >= 0 && slot < taken.length ? taken[slot] : 0;
        }

        int takenInAll(int sort) {
            int pieces = 0;
            for (int box = 0; box < CASES; box++) {
                pieces += takenFrom(box, sort);
            }
            return pieces;
        }

        int formePieces() {
            int pieces = 0;
            for (int slot = 0; slot < taken.length; slot++) {
                pieces += taken[slot];
            }
            return pieces;
        }

        int borrowedPieces() {
            int pieces = formePieces();
            for (int sort = 0; sort < SORTS; sort++) {
                pieces -= takenFrom(order.box, sort);
            }
            return pieces;
        }

        int formeMetal() {
            int metal = 0;
            for (int sort = 0; sort < SORTS; sort++) {
                metal += takenInAll(sort) * widthOf(sort);
            }
            return metal;
        }
    }

    /** Fills gaps one by one from the spaces that are left. */
    private static final class Spacer {
        int foursLeft = 0;
        int twosLeft = 0;
        int fours = 0;
        int twos = 0;
        int ones = 0;
        int allFours = 0;
        int allTwos = 0;
        int allOnes = 0;

        void begin(int foursThere, int twosThere) {
            foursLeft = foursThere;
            twosLeft = twosThere;
            allFours = 0;
            allTwos = 0;
            allOnes = 0;
        }

        /** 1 wide spaces are used without limit: whether there are so many is asked when all gaps are filled. */
        void fill(int width) {
            fours = Math.min(width / 4, foursLeft);
            int rest = width - 4 * fours;
            twos = Math.min(rest / 2, twosLeft);
            ones = rest - 2 * twos;
            foursLeft -= fours;
            twosLeft -= twos;
            allFours += fours;
            allTwos += twos;
            allOnes += ones;
        }

        int pieceCount() {
            return fours + twos + ones;
        }

        char digitAt(int index) {
            if (index < fours) {
                return '4';
            }
            return index < fours + twos ? '2' : '1';
        }
    }

    /** All that undo() and restore() bring back. */
    private static final class State {
        final int[] inCases = new int[CASES * SORTS];
        final int[] worn = new int[SORTS];
        final Job[] jobs = new Job[JOBS];
        int caseCount = 0;
        int jobCount = 0;
        int pot = 0;
        int day = 0;
        int bought = 0;
        int dross = 0;
        int castPieces = 0;
        int meltedPieces = 0;

        void copyFrom(State other) {
            System.arraycopy(other.inCases, 0, inCases, 0, CASES * SORTS);
            System.arraycopy(other.worn, 0, worn, 0, SORTS);
            for (int i = 0; i < JOBS; i++) {
                jobs[i] = other.jobs[i];
            }
            caseCount = other.caseCount;
            jobCount = other.jobCount;
            pot = other.pot;
            day = other.day;
            bought = other.bought;
            dross = other.dross;
            castPieces = other.castPieces;
            meltedPieces = other.meltedPieces;
        }

        /** Null if there is no such job. */
        Job findJob(int number) {
            return number >= 0 && number < jobCount && number < JOBS ? jobs[number] : null;
        }

        void putJob(int number, Job job) {
            if (number >= 0 && number < JOBS) {
                jobs[number] = job;
            }
        }

        int held(int box, int sort) {
            int slot = slotOf(box, sort);
            return slot >= 0 && slot < inCases.length ? inCases[slot] : 0;
        }

        int heldInAll(int sort) {
            int pieces = 0;
            for (int box = 0; box < CASES; box++) {
                pieces += held(box, sort);
            }
            return pieces;
        }

        void put(int box, int sort, int pieces) {
            int slot = slotOf(box, sort);
            if (slot >= 0 && slot < inCases.length) {
                inCases[slot] += pieces;
            }
        }

        int wornPieces() {
            int pieces = 0;
            for (int sort = 0; sort < SORTS; sort++) {
                pieces += worn[sort];
            }
            return pieces;
        }

        int wornMetal() {
            int metal = 0;
            for (int sort = 0; sort < SORTS; sort++) {
                metal += worn[sort] * widthOf(sort);
            }
            return metal;
        }

        void emptyWornBox() {
            for (int sort = 0; sort < SORTS; sort++) {
                worn[sort] = 0;
            }
        }

        int metalInCases() {
            int metal = 0;
            for (int sort = 0; sort < SORTS; sort++) {
                metal += heldInAll(sort) * widthOf(sort);
            }
            return metal;
        }

        int metalInFormes() {
            int metal = 0;
            for (int number = 0; number < JOBS; number++) {
                Job job = findJob(number);
                if (job != null) {
                    metal += job.formeMetal();
                }
            }
            return metal;
        }

        int allDaysLate() {
            int days = 0;
            for (int number = 0; number < JOBS; number++) {
                Job job = findJob(number);
                if (job != null && job.printedOn != NONE) {
                    days += job.daysLate();
                }
            }
            return days;
        }

        int overdueJobs() {
            int found = 0;
            for (int number = 0; number < JOBS; number++) {
                Job job = findJob(number);
                if (job != null && job.isOpen() && job.order.due < day) {
                    found++;
                }
            }
            return found;
        }
    }
}
