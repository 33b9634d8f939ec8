import java.util.ArrayDeque;
import java.util.ArrayList;
import java.util.Deque;
import java.util.List;
import java.util.regex.Pattern;

/**
 * The document once more, told piece by piece and without thought of cost: pieces are objects in lists, gaps are filled
 * one piece after the other, and a state is copied whole. ModelTests compares its answers with those of the class.
 */
final class Model {
    private static final Pattern WHOLE = Pattern.compile("[a-z]+([ /][a-z]+)*");
    private static final Pattern BEGUN = Pattern.compile("([a-z]+[ /])*[a-z]*");
    private static final int[] WIDTHS = {2, 3, 4, 5, 6, 2, 3, 4, 5, 6, 2, 3, 4, 5, 6, 2, 3, 4, 5, 6, 2, 3, 4, 5, 6, 2, 4, 2, 1};

    /** A piece in a forme. */
    private record Piece(int sort, int from) {
    }

    private static final class Job {
        int box;
        int measure;
        int due;
        int state;
        int printedOn = -5;
        int late = -5;
        String text;
        List<Piece> forme = new ArrayList<>();
        List<String> lines = new ArrayList<>();
        /** The lines as they were filled when the job was set. */
        List<String> filled = new ArrayList<>();

        Job copy() {
            Job copy = new Job();
            copy.box = box;
            copy.measure = measure;
            copy.due = due;
            copy.state = state;
            copy.printedOn = printedOn;
            copy.late = late;
            copy.text = text;
            copy.forme = new ArrayList<>(forme);
            copy.lines = new ArrayList<>(lines);
            copy.filled = new ArrayList<>(filled);
            return copy;
        }
    }

    private static final class State {
        List<int[]> cases = new ArrayList<>();
        int[] box = new int[29];
        List<Job> jobs = new ArrayList<>();
        int pot;
        int day;
        int bought;
        int dross;
        int cast;
        int melted;
        int late;

        State copy() {
            State copy = new State();
            for (int[] one : cases) {
                copy.cases.add(one.clone());
            }
            copy.box = box.clone();
            for (Job job : jobs) {
                copy.jobs.add(job.copy());
            }
            copy.pot = pot;
            copy.day = day;
            copy.bought = bought;
            copy.dross = dross;
            copy.cast = cast;
            copy.melted = melted;
            copy.late = late;
            return copy;
        }
    }

    /** What a job would need, and the lines as they would be filled. */
    private static final class Plan {
        int[] there = new int[29];
        int[] need = new int[29];
        List<String> lines = new ArrayList<>();

        int missing(int sort) {
            return need[sort] > there[sort] ? need[sort] - there[sort] : 0;
        }
    }

    private final StringBuilder text = new StringBuilder();
    private State now = new State();
    private final Deque<State> history = new ArrayDeque<>();
    private State snapshot;

    private void act() {
        history.addLast(now.copy());
        if (history.size() > 5) {
            history.removeFirst();
        }
    }

    private boolean noCase(int box) {
        return box < 0 || box >= now.cases.size();
    }

    private static boolean noSort(int sort) {
        return sort < 0 || sort > 28;
    }

    private boolean noJob(int job) {
        return job < 0 || job >= now.jobs.size();
    }

    int buy(int metal) {
        if (metal < 1 || metal > 20000) {
            return -2;
        }
        if (now.pot + metal > 100000) {
            return -3;
        }
        act();
        now.bought += metal;
        return now.pot += metal;
    }

    int addCase() {
        if (now.cases.size() == 6) {
            return -3;
        }
        act();
        now.cases.add(new int[29]);
        return now.cases.size() - 1;
    }

    int cast(int box, int sort, int count) {
        if (noCase(box) || noSort(sort)) {
            return -1;
        }
        if (count < 1 || count > 99) {
            return -2;
        }
        if (now.cases.get(box)[sort] + count > 99) {
            return -3;
        }
        if (count * WIDTHS[sort] > now.pot) {
            return -4;
        }
        act();
        now.pot -= count * WIDTHS[sort];
        now.cast += count;
        return now.cases.get(box)[sort] += count;
    }

    int castFount(int box, int count) {
        if (noCase(box)) {
            return -1;
        }
        if (count < 1 || count > 9) {
            return -2;
        }
        int metal = 0;
        for (int sort = 0; sort < 29; sort++) {
            int more = sort > 25 ? count + count : count;
            if (now.cases.get(box)[sort] + more > 99) {
                return -3;
            }
            metal += more * WIDTHS[sort];
        }
        if (metal > now.pot) {
            return -4;
        }
        act();
        int all = 0;
        for (int sort = 0; sort < 29; sort++) {
            int more = sort > 25 ? count + count : count;
            now.cases.get(box)[sort] += more;
            all += more;
        }
        now.pot -= metal;
        now.cast += all;
        return all;
    }

    int melt(int box, int sort, int count) {
        if (noCase(box) || noSort(sort)) {
            return -1;
        }
        if (count < 1 || count > 99) {
            return -2;
        }
        if (now.cases.get(box)[sort] < count) {
            return -4;
        }
        act();
        now.cases.get(box)[sort] -= count;
        now.melted += count;
        return now.pot += count * WIDTHS[sort];
    }

    int meltBox() {
        if (count(10) == 0) {
            return -5;
        }
        act();
        int metal = count(5);
        now.melted += count(10);
        now.box = new int[29];
        now.dross += metal / 50;
        now.pot += metal - metal / 50;
        return metal - metal / 50;
    }

    int type(char character) {
        if (text.length() == 60) {
            return -3;
        }
        return text.append(character).length();
    }

    int clearText() {
        int length = text.length();
        text.setLength(0);
        return length;
    }

    private static int widthOf(String line) {
        int width = 0;
        for (char sign : line.toCharArray()) {
            width += sign == ' ' ? 0 : WIDTHS[sign - 'a'];
        }
        return width;
    }

    private static List<Integer> gaps(String line, int measure) {
        int rest = measure - widthOf(line);
        int gaps = Math.max(1, line.split(" ").length - 1);
        List<Integer> widths = new ArrayList<>();
        for (int i = 0; i < gaps; i++) {
            widths.add(0);
        }
        for (int i = 0; i < rest; i++) {
            widths.set(i % gaps, widths.get(i % gaps) + 1);
        }
        return widths;
    }

    int order(int box, int measure, int due) {
        if (noCase(box)) {
            return -1;
        }
        if (measure < 10 || measure > 150 || due < 0 || due > 9999) {
            return -2;
        }
        for (int end = 1; end <= text.length(); end++) {
            if (!BEGUN.matcher(text.substring(0, end)).matches()) {
                return -100 - (end - 1);
            }
        }
        if (!WHOLE.matcher(text).matches()) {
            return -100 - text.length();
        }
        Job job = new Job();
        for (String line : text.toString().split("/")) {
            int rest = measure - widthOf(line);
            if (rest < 0 || rest < line.split(" ").length - 1) {
                return -4;
            }
            job.lines.add(line);
        }
        if (now.jobs.size() == 12) {
            return -3;
        }
        act();
        job.box = box;
        job.measure = measure;
        job.due = due;
        job.text = text.toString();
        now.jobs.add(job);
        return now.jobs.size() - 1;
    }

    private Plan plan(Job job) {
        Plan plan = new Plan();
        for (int[] one : now.cases) {
            for (int sort = 0; sort < 29; sort++) {
                plan.there[sort] += one[sort];
            }
        }
        for (Piece piece : job.forme) {
            plan.there[piece.sort()]++;
        }
        int[] left = plan.there.clone();
        for (String line : job.lines) {
            List<Integer> widths = gaps(line, job.measure);
            StringBuilder filled = new StringBuilder();
            int gap = 0;
            for (char sign : (line.contains(" ") ? line : line + " ").toCharArray()) {
                if (sign != ' ') {
                    plan.need[sign - 'a']++;
                    filled.append(sign);
                    continue;
                }
                int rest = widths.get(gap++);
                while (rest > 0) {
                    int sort = rest >= 4 && left[26] > 0 ? 26 : rest >= 2 && left[27] > 0 ? 27 : 28;
                    rest -= WIDTHS[sort];
                    left[sort]--;
                    plan.need[sort]++;
                    filled.append(WIDTHS[sort]);
                }
            }
            plan.lines.add(filled.toString());
        }
        return plan;
    }

    int set(int number) {
        if (noJob(number)) {
            return -1;
        }
        Job job = now.jobs.get(number);
        if (job.state != 0) {
            return -4;
        }
        Plan plan = plan(job);
        for (int sort = 0; sort < 29; sort++) {
            if (plan.missing(sort) > 0) {
                return -4;
            }
        }
        act();
        int borrowed = 0;
        for (int sort = 0; sort < 29; sort++) {
            for (int i = 0; i < plan.need[sort]; i++) {
                int from = job.box;
                if (now.cases.get(from)[sort] == 0) {
                    from = 0;
                    while (now.cases.get(from)[sort] == 0) {
                        from++;
                    }
                    borrowed++;
                }
                now.cases.get(from)[sort]--;
                job.forme.add(new Piece(sort, from));
            }
        }
        job.filled = plan.lines;
        job.state = 1;
        return borrowed;
    }

    int castMissing(int number) {
        if (noJob(number)) {
            return -1;
        }
        Job job = now.jobs.get(number);
        if (job.state != 0) {
            return -4;
        }
        Plan plan = plan(job);
        int all = 0;
        int metal = 0;
        boolean full = false;
        for (int sort = 0; sort < 29; sort++) {
            all += plan.missing(sort);
            metal += plan.missing(sort) * WIDTHS[sort];
            full |= plan.missing(sort) + now.cases.get(job.box)[sort] > 99;
        }
        if (all == 0) {
            return -5;
        }
        if (full) {
            return -3;
        }
        if (metal > now.pot) {
            return -4;
        }
        act();
        for (int sort = 0; sort < 29; sort++) {
            now.cases.get(job.box)[sort] += plan.missing(sort);
        }
        now.pot -= metal;
        now.cast += all;
        return all;
    }

    int print(int number) {
        if (noJob(number)) {
            return -1;
        }
        Job job = now.jobs.get(number);
        if (job.state != 1) {
            return -4;
        }
        act();
        job.state = 2;
        job.printedOn = now.day;
        job.late = now.day > job.due ? now.day - job.due : 0;
        now.late += job.late;
        return job.late;
    }

    private int giveBack(Job job, boolean wears) {
        int toBox = 0;
        for (int box = 0; box < now.cases.size(); box++) {
            for (int sort = 0; sort < 29; sort++) {
                int n = takenOf(job, box, sort);
                for (int i = 0; i < n; i++) {
                    boolean worn = wears && i < n / 8;
                    if (worn || now.cases.get(box)[sort] == 99) {
                        now.box[sort]++;
                        toBox++;
                    } else {
                        now.cases.get(box)[sort]++;
                    }
                }
            }
        }
        job.forme.clear();
        return toBox;
    }

    private static int takenOf(Job job, int box, int sort) {
        int n = 0;
        for (Piece piece : job.forme) {
            n += piece.sort() == sort && piece.from() == box ? 1 : 0;
        }
        return n;
    }

    int distribute(int number) {
        if (noJob(number)) {
            return -1;
        }
        Job job = now.jobs.get(number);
        if (job.state != 2) {
            return -4;
        }
        act();
        job.state = 3;
        return giveBack(job, true);
    }

    int cancel(int number) {
        if (noJob(number)) {
            return -1;
        }
        Job job = now.jobs.get(number);
        if (job.state > 1) {
            return -4;
        }
        act();
        job.state = 4;
        int all = job.forme.size();
        return all - giveBack(job, false);
    }

    int pass(int days) {
        if (days < 1 || days > 30) {
            return -2;
        }
        act();
        return now.day += days;
    }

    int undo() {
        if (history.isEmpty()) {
            return -5;
        }
        now = history.removeLast();
        return history.size();
    }

    int keep() {
        snapshot = now.copy();
        return now.jobs.size();
    }

    int restore() {
        if (snapshot == null) {
            return -5;
        }
        act();
        now = snapshot.copy();
        return now.jobs.size();
    }

    int pieces(int box, int sort) {
        if (noSort(sort) || box != -1 && noCase(box)) {
            return -1;
        }
        return box == -1 ? now.box[sort] : now.cases.get(box)[sort];
    }

    int job(int number, int what) {
        if (noJob(number)) {
            return -1;
        }
        Job job = now.jobs.get(number);
        int gaps = 0;
        for (String line : job.lines) {
            gaps += gaps(line, job.measure).size();
        }
        int borrowed = 0;
        for (Piece piece : job.forme) {
            borrowed += piece.from() != job.box ? 1 : 0;
        }
        int[] told = {job.box, job.measure, job.due, job.state, job.lines.size(), job.text.replaceAll("[ /]", "").length(),
            gaps, job.forme.size(), borrowed, job.printedOn, job.late};
        return what < 0 || what >= told.length ? -2 : told[what];
    }

    int need(int number, int sort) {
        return noJob(number) || noSort(sort) ? -1 : plan(now.jobs.get(number)).need[sort];
    }

    int missing(int number, int sort) {
        return noJob(number) || noSort(sort) ? -1 : plan(now.jobs.get(number)).missing(sort);
    }

    int taken(int number, int box, int sort) {
        return noJob(number) || noCase(box) || noSort(sort) ? -1 : takenOf(now.jobs.get(number), box, sort);
    }

    int gap(int number, int line, int gap) {
        if (noJob(number)) {
            return -1;
        }
        Job job = now.jobs.get(number);
        if (line < 0 || line >= job.lines.size()) {
            return -5;
        }
        List<Integer> widths = gaps(job.lines.get(line), job.measure);
        return gap < 0 || gap >= widths.size() ? -5 : widths.get(gap);
    }

    int pieceAt(int number, int line, int index) {
        if (noJob(number)) {
            return -1;
        }
        Job job = now.jobs.get(number);
        if (job.state != 1 && job.state != 2) {
            return -4;
        }
        List<String> lines = job.filled;
        if (line < 0 || line >= lines.size() || index < 0 || index >= lines.get(line).length()) {
            return -5;
        }
        return lines.get(line).charAt(index);
    }

    int urgent() {
        int best = -5;
        for (int number = now.jobs.size() - 1; number >= 0; number--) {
            Job job = now.jobs.get(number);
            if (job.state < 2 && (best < 0 || job.due <= now.jobs.get(best).due)) {
                best = number;
            }
        }
        return best;
    }

    int count(int what) {
        int inCases = 0;
        int inFormes = 0;
        int inBox = 0;
        int boxed = 0;
        int overdue = 0;
        for (int sort = 0; sort < 29; sort++) {
            for (int[] one : now.cases) {
                inCases += one[sort] * WIDTHS[sort];
            }
            inBox += now.box[sort] * WIDTHS[sort];
            boxed += now.box[sort];
        }
        for (Job job : now.jobs) {
            for (Piece piece : job.forme) {
                inFormes += WIDTHS[piece.sort()];
            }
            overdue += job.state < 2 && now.day > job.due ? 1 : 0;
        }
        int[] told = {now.cases.size(), now.jobs.size(), now.pot, inCases, inFormes, inBox, now.bought, now.dross, now.cast,
            now.melted, boxed, now.day, now.late, overdue, history.size(), text.length()};
        return what < 0 || what >= told.length ? -2 : told[what];
    }
}
