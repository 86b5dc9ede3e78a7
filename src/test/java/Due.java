/** Counts answers that are due and tells those that are not as due. */
final class Due {
    private static int passed = 0;
    private static int failed = 0;

    private Due() {
    }

    static void due(String call, long got, long want) {
        if (got == want) {
            passed++;
        } else {
            failed++;
            System.out.println(call + " answered " + got + ", due is " + want);
        }
    }

    static void so(String what, boolean holds) {
        due(what, holds ? 1 : 0, 1);
    }

    static int passed() {
        return passed;
    }

    static int failed() {
        return failed;
    }

    /** Tells a street in letters. */
    static int tell(WallsByTheHour x, String text) {
        for (char c : text.toCharArray()) {
            x.letter(c);
        }
        return x.street();
    }

    /** A new object of which such a street has been told. */
    static WallsByTheHour told(String text) {
        WallsByTheHour x = new WallsByTheHour();
        if (tell(x, text) <= 0) {
            so("the street '" + text + "' is without fault", false);
        }
        return x;
    }

    /** The ROW becomes these numbers. */
    static void rowOf(WallsByTheHour x, int... numbers) {
        x.clear();
        for (int number : numbers) {
            x.row(number);
        }
    }
}
