/** Counts the answers that are not as due, and ends the program by them. */
final class Check {
    private static int wrong = 0;
    private static int asked = 0;
    private static String part = "";

    private Check() {
    }

    static void part(String name) {
        part = name;
    }

    static void due(String call, long got, long want) {
        asked++;
        if (got != want) {
            wrong++;
            System.out.println(part + ": " + call + " answered " + got + ", due is " + want);
        }
    }

    static void holds(String what, boolean held) {
        asked++;
        if (!held) {
            wrong++;
            System.out.println(part + ": " + what);
        }
    }

    static boolean anyWrong() {
        return wrong > 0;
    }

    static void end() {
        System.out.println(wrong == 0 ? asked + " answers are as due" : wrong + " of " + asked + " are not as due");
        if (wrong > 0) {
            System.exit(1);
        }
    }
}
