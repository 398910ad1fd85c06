/**
 * Prints every answer that is not the one that is due, and ends the program with 1 if there was one, or if the test does
 * not come to an end.
 */
final class Check {
    private static final long LONGEST_MILLIS = 600_000;

    private int made;
    private int wrong;

    Check() {
        Thread watch = new Thread(Check::endLate);
        watch.setDaemon(true);
        watch.start();
    }

    /** A call without end would otherwise keep .ci/run from ever telling that a test failed. */
    private static void endLate() {
        try {
            Thread.sleep(LONGEST_MILLIS);
        } catch (InterruptedException e) {
            return;
        }
        System.out.println("the test has not come to an end");
        Runtime.getRuntime().halt(1);
    }

    void due(String call, long got, long want) {
        made++;
        if (got != want) {
            wrong++;
            System.out.println(call + " answered " + got + ", due is " + want);
        }
    }

    void due(String call, boolean got, boolean want) {
        due(call, got ? 1L : 0L, want ? 1L : 0L);
    }

    void due(String call, String got, String want) {
        made++;
        if (!got.equals(want)) {
            wrong++;
            System.out.println(call + " answered " + got + ", due is " + want);
        }
    }

    /** All numbers that why() or has() tells, from 0 on until NONE. */
    void dueRow(String call, int[] got, int... want) {
        made++;
        if (!java.util.Arrays.equals(got, want)) {
            wrong++;
            System.out.println(call + " answered " + java.util.Arrays.toString(got)
                + ", due is " + java.util.Arrays.toString(want));
        }
    }

    boolean hasWrong() {
        return wrong > 0;
    }

    void end() {
        System.out.println(made + " answers, " + wrong + " not as due");
        if (wrong > 0 || made == 0) {
            System.exit(1);
        }
    }

    static TreatyHouse houseWith(int parties) {
        TreatyHouse house = new TreatyHouse();
        for (int p = 0; p < parties; p++) {
            house.party();
        }
        return house;
    }

    static int[] why(TreatyHouse house, int p, int q, int g, int a, int d, int k) {
        int[] row = new int[400];
        int n = 0;
        for (int x = house.why(p, q, g, a, d, k, 0); x != TreatyHouse.NONE && n < row.length;
                x = house.why(p, q, g, a, d, k, n)) {
            row[n++] = x;
        }
        return java.util.Arrays.copyOf(row, n);
    }

    static int[] has(TreatyHouse house, int p, int g, int d, int k) {
        int[] row = new int[400];
        int n = 0;
        for (int x = house.has(p, g, d, k, 0); x != TreatyHouse.NONE && n < row.length;
                x = house.has(p, g, d, k, n)) {
            row[n++] = x;
        }
        return java.util.Arrays.copyOf(row, n);
    }
}
