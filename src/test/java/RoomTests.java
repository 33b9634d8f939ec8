import com.sun.management.ThreadMXBean;
import java.lang.management.ManagementFactory;

/**
 * All calls of one run live in one room of some 600,000 objects and 7.3 million fields and elements. An object takes 16
 * bytes here and an element a byte at least, so a run that makes no more than BYTES stays far below both.
 */
public final class RoomTests extends Bench {
    private static final int CALLS = 512;
    private static final int CALLS_AHEAD = 8;
    private static final long BYTES = 2_000_000;
    private static final String LONGEST = "a" + " a".repeat(29);
    private static final ThreadMXBean MACHINE = (ThreadMXBean) ManagementFactory.getThreadMXBean();

    interface Call {
        int ask(TypeWorkshop x, int number);
    }

    private static TypeWorkshop ready(String text) {
        TypeWorkshop x = withCases(2, 40000);
        x.castFount(0, 9);
        x.castFount(1, 9);
        write(x, text);
        return x;
    }

    private static long bytesOf(String text, Call call) {
        TypeWorkshop x = ready(text);
        int calls = CALLS - CALLS_AHEAD - text.length();
        long before = MACHINE.getThreadAllocatedBytes(Thread.currentThread().getId());
        for (int number = 0; number < calls; number++) {
            call.ask(x, number);
        }
        return MACHINE.getThreadAllocatedBytes(Thread.currentThread().getId()) - before;
    }

    private static void room(String name, String text, Call call) {
        // The machine may load classes in the first run.
        bytesOf(text, call);
        long bytes = bytesOf(text, call);
        Check.holds(name + " makes " + bytes + " bytes, at most " + BYTES + " are due", bytes <= BYTES);
    }

    private static int allSteps(TypeWorkshop x, int number) {
        return switch (number % 6) {
            case 0 -> x.order(0, 60, 0);
            case 1 -> x.set(number / 6);
            case 2 -> x.print(number / 6);
            case 3 -> x.distribute(number / 6);
            case 4 -> x.keep();
            default -> x.restore();
        };
    }

    private static int setAndUndo(TypeWorkshop x, int number) {
        return number == 0 ? x.order(0, 60, 0) : number % 2 == 0 ? x.undo() : x.set(0);
    }

    public static void main(String[] args) {
        Check.part("the room");
        room("512 new objects", "a", (x, number) -> new TypeWorkshop().count(0));
        room("order()", LONGEST, (x, number) -> x.order(0, 150, 0));
        room("order() that is refused", LONGEST, (x, number) -> x.order(0, 60, 0));
        room("order() and undo()", LONGEST, (x, number) -> number % 2 == 0 ? x.order(0, 150, 0) : x.undo());
        room("set() and undo()", "abc de/f", RoomTests::setAndUndo);
        room("all steps", "abc de/f", RoomTests::allSteps);
        room("pass()", "a", (x, number) -> x.pass(1));
        room("keep() and restore()", "a", (x, number) -> number % 2 == 0 ? x.keep() : x.restore());
        room("need()", LONGEST, (x, number) -> number == 0 ? x.order(0, 150, 0) : x.need(0, 28));
        room("pieceAt()", "abc de/f", (x, number) -> number < 2 ? allSteps(x, number) : x.pieceAt(0, 1, number % 20));
        Check.end();
    }
}
