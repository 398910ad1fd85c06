/** Promises 27 to 32: ANNEXES. */
public final class AnnexTest {
    private static final Check check = new Check();

    public static void main(String[] args) {
        annex();
        tear();
        writeAndRead();
        size();
        copy();
        copyRefused();
        check.end();
    }

    private static void annex() {
        TreatyHouse x = new TreatyHouse();
        check.due("27: no AGREEMENT", x.annex(0, 0, 1), -2);
        x.agreement(1, 1, 0, 0);
        x.agreement(1, 1, 0, 0);
        check.due("27: AGREEMENT -1", x.annex(-1, 0, 1), -2);
        check.due("27: AGREEMENT 2", x.annex(2, 0, 1), -2);
        check.due("27: WIDTH -1", x.annex(0, -1, 1), -2);
        check.due("27: WIDTH 4", x.annex(0, 4, 1), -2);
        check.due("27: WIDTH 4, n -1", x.annex(0, 4, -1), -2);
        check.due("27: n 101", x.annex(0, 0, 101), -2);
        check.due("27: n MAX", x.annex(0, 0, Integer.MAX_VALUE), -2);
        check.due("27: n -1", x.annex(0, 0, -1), -3);
        check.due("27: n MIN", x.annex(0, 0, Integer.MIN_VALUE), -3);
        check.due("27: none made", x.count(14), 0);
        for (int i = 0; i < 8; i++) {
            check.due("27: annex", x.annex(0, i % 4, i == 0 ? 0 : i == 1 ? 100 : i), i);
        }
        check.due("27: n 0", x.size(0, 0), 0);
        check.due("27: n 100", x.size(0, 1), 100);
        check.due("27: the ninth", x.annex(0, 0, 1), -8);
        check.due("27: the ninth, n -1", x.annex(0, 0, -1), -8);
        check.due("27: the ninth, n 101", x.annex(0, 0, 101), -2);
        x.tear(0, 3);
        check.due("27: a MISSING one counts", x.annex(0, 0, 1), -8);
        check.due("27: of the other AGREEMENT", x.annex(1, 0, 1), 0);
        check.due("27: at first 0", x.read(0, 1, 99), 0);
        check.due("27: count(14)", x.count(14), 8);
    }

    private static void tear() {
        TreatyHouse x = new TreatyHouse();
        check.due("28: no AGREEMENT", x.tear(0, 0), false);
        x.agreement(1, 1, 0, 0);
        x.agreement(1, 1, 0, 0);
        x.annex(0, 0, 2);
        x.annex(1, 0, 2);
        check.due("28: ANNEX 1", x.tear(0, 1), false);
        check.due("28: ANNEX -1", x.tear(0, -1), false);
        check.due("28: ANNEX 8", x.tear(0, 8), false);
        check.due("28: AGREEMENT -1", x.tear(-1, 0), false);
        check.due("28: ANNEX 0", x.tear(0, 0), true);
        check.due("28: again", x.tear(0, 0), false);
        check.due("28: it is MISSING", x.size(0, 0), -5);
        check.due("28: the other is not", x.size(1, 0), 2);
        check.due("28: the number is not given again", x.annex(0, 0, 1), 1);
    }

    private static void writeAndRead() {
        TreatyHouse x = new TreatyHouse();
        x.agreement(1, 1, 0, 0);
        for (int width = 0; width < 4; width++) {
            x.annex(0, width, 3);
        }
        long[][] due = {
            {0, 127, 127}, {0, 128, -128}, {0, 255, -1}, {0, 256, 0}, {0, -129, 127}, {0, 300, 44},
            {0, 0x7fffffffffffff80L, -128},
            {1, 32767, 32767}, {1, 32768, -32768}, {1, 65536, 0}, {1, -32769, 32767}, {1, 300, 300},
            {2, 2147483647L, 2147483647L}, {2, 2147483648L, -2147483648L}, {2, 4294967301L, 5}, {2, -5, -5},
            {3, Long.MAX_VALUE, Long.MAX_VALUE}, {3, Long.MIN_VALUE, Long.MIN_VALUE}, {3, 4294967301L, 4294967301L}};
        for (long[] row : due) {
            int width = (int) row[0];
            check.due("29: write " + row[1], x.write(0, width, 1, row[1]), 0);
            check.due("30: read of WIDTH " + width + " after " + row[1], x.read(0, width, 1), row[2]);
        }
        check.due("30: the number ahead", x.read(0, 3, 0), 0);
        check.due("30: the number behind", x.read(0, 3, 2), 0);
        int[] outside = {-1, 3, Integer.MIN_VALUE, Integer.MAX_VALUE};
        for (int i : outside) {
            check.due("29: number " + i, x.write(0, 3, i, 9), -6);
            check.due("30: number " + i, x.read(0, 3, i), 0);
        }
        int[] noAnnex = {-1, 4, 8, Integer.MIN_VALUE, Integer.MAX_VALUE};
        for (int i : noAnnex) {
            check.due("29: ANNEX " + i, x.write(0, i, 0, 9), -2);
            check.due("30: ANNEX " + i, x.read(0, i, 0), 0);
        }
        check.due("29: AGREEMENT 1", x.write(1, 0, 0, 9), -2);
        check.due("30: AGREEMENT 1", x.read(1, 0, 0), 0);
        x.tear(0, 3);
        check.due("29: MISSING", x.write(0, 3, 1, 9), -5);
        check.due("29: MISSING, no such number", x.write(0, 3, -1, 9), -5);
        check.due("30: MISSING", x.read(0, 3, 1), 0);
    }

    private static void size() {
        TreatyHouse x = new TreatyHouse();
        x.agreement(1, 1, 0, 0);
        x.annex(0, 2, 17);
        x.annex(0, 0, 0);
        check.due("31: size(0, 0)", x.size(0, 0), 17);
        check.due("31: size(0, 1)", x.size(0, 1), 0);
        check.due("31: ANNEX 2", x.size(0, 2), -2);
        check.due("31: ANNEX -1", x.size(0, -1), -2);
        check.due("31: AGREEMENT 1", x.size(1, 0), -2);
        check.due("31: AGREEMENT -1", x.size(-1, 0), -2);
        x.tear(0, 0);
        check.due("31: MISSING", x.size(0, 0), -5);
    }

    private static TreatyHouse withNumbers() {
        TreatyHouse x = new TreatyHouse();
        x.agreement(1, 1, 0, 0);
        x.agreement(1, 1, 0, 0);
        x.annex(0, 1, 5);
        x.annex(0, 1, 3);
        x.annex(0, 2, 5);
        x.annex(1, 1, 4);
        for (int i = 0; i < 5; i++) {
            x.write(0, 0, i, i + 1);
        }
        return x;
    }

    private static void dueNumbers(String call, TreatyHouse x, int g, int annex, long... due) {
        for (int i = 0; i < due.length; i++) {
            check.due(call + ": number " + i, x.read(g, annex, i), due[i]);
        }
    }

    private static void copy() {
        TreatyHouse x = withNumbers();
        check.due("32: to another AGREEMENT", x.copy(0, 0, 1, 1, 0, 2, 2), 0);
        dueNumbers("32: to another AGREEMENT", x, 1, 0, 0, 0, 2, 3);
        check.due("32: upwards onto itself", x.copy(0, 0, 0, 0, 0, 1, 4), 0);
        dueNumbers("32: upwards onto itself", x, 0, 0, 1, 1, 2, 3, 4);
        check.due("32: downwards onto itself", x.copy(0, 0, 1, 0, 0, 0, 4), 0);
        dueNumbers("32: downwards onto itself", x, 0, 0, 1, 2, 3, 4, 4);
        check.due("32: all of it", x.copy(0, 0, 0, 0, 0, 0, 5), 0);
        dueNumbers("32: all of it", x, 0, 0, 1, 2, 3, 4, 4);
        check.due("32: to another ANNEX", x.copy(0, 0, 2, 0, 1, 0, 3), 0);
        dueNumbers("32: to another ANNEX", x, 0, 1, 3, 4, 4);
        check.due("32: none, from the end to the end", x.copy(0, 0, 5, 0, 1, 3, 0), 0);
    }

    private static void copyRefused() {
        TreatyHouse x = withNumbers();
        int max = Integer.MAX_VALUE;
        int min = Integer.MIN_VALUE;
        int[][] outside = {{-1, 0, 0}, {0, -1, 0}, {0, 0, -1}, {0, 0, 4}, {3, 0, 3}, {0, 1, 3}, {6, 0, 0}, {0, 4, 0},
            {max, 0, 1}, {0, max, 1}, {1, 1, max}, {max, max, max}, {min, 0, 0}, {0, min, 0}, {0, 0, min}, {2, 0, max}};
        for (int[] row : outside) {
            check.due("32: from " + row[0] + " to " + row[1] + ", " + row[2] + " numbers",
                x.copy(0, 0, row[0], 0, 1, row[1], row[2]), -6);
        }
        dueNumbers("32: refusals change nothing", x, 0, 1, 0, 0, 0);
        check.due("32: unlike WIDTHS", x.copy(0, 0, 0, 0, 2, 0, 1), -7);
        check.due("32: unlike WIDTHS, n -1", x.copy(0, 0, 0, 0, 2, 0, -1), -7);
        check.due("32: no x", x.copy(0, 3, 0, 0, 0, 0, 1), -2);
        check.due("32: no y", x.copy(0, 0, 0, 0, 3, 0, 1), -2);
        check.due("32: no g", x.copy(2, 0, 0, 0, 0, 0, 1), -2);
        check.due("32: no h", x.copy(0, 0, 0, -1, 0, 0, 1), -2);
        x.tear(0, 2);
        check.due("32: x MISSING", x.copy(0, 2, 0, 0, 0, 0, 1), -5);
        check.due("32: y MISSING", x.copy(0, 0, 0, 0, 2, 0, 9), -5);
        check.due("32: y MISSING, no x", x.copy(0, 4, 0, 0, 2, 0, 9), -2);
        check.due("32: x MISSING onto itself", x.copy(0, 2, 0, 0, 2, 0, 0), -5);
    }
}
