import java.math.BigInteger;
import java.util.ArrayList;
import java.util.List;

/** The edges of SHEETS, FINDINGS and refusals, what is counted, and the digest: promises 26 to 33. */
public final class EdgeSheetTest {
    private static final int NONE = Story.NONE, BAD = Story.BAD, NOT = Story.NOT, FULL = Story.FULL;
    private static final int NULL = Story.NULL, INDEX = Story.INDEX, CAST = Story.CAST, STORE = Story.STORE, SIZE = Story.SIZE;
    private static final int LEAST = Story.LEAST, MOST = Story.MOST;

    public static void main(String[] args) {
        lostAtFirst();
        types();
        sixtyItems();
        zeroAtFirst();
        losing();
        layingBits();
        layingRefused();
        getting();
        copying();
        copyingOntoItself();
        copyingRefused();
        writing();
        writingBits();
        findings();
        order();
        counting();
        latestFinding();
        digestOfAll();
        digestWraps();
        Story.conclude();
    }

    private static void lostAtFirst() {
        Story.sentence("SHEETS 0 .. 3 are LOST (at first) or a row of a TYPE");
        Story s = new Story();
        for (int i = 0; i < 4; i++) {
            s.again().refuses(NULL, "lose", i);
            s.again().refuses(NULL, "read", i);
            s.again().refuses(NULL, "write", 0, i);
            s.again().refuses(NULL, "copy", i, 0, i, 0, 0);
            for (int type = 0; type < 3; type++) {
                s.again().refuses(NULL, "lay", i, type, 0, 1);
                s.again().refusesGet(NULL, i, type, 0);
                s.again().does(7, "sheet", i, type, 7).asks(0, "get", i, type, 6).does(7, "lose", i).refuses(NULL, "lose", i);
            }
        }
        Story w = Story.world();
        for (int beyond : new int[] {-1, 4, LEAST, MOST}) {
            w.refuses(BAD, "sheet", beyond, 0, 1).refuses(BAD, "lose", beyond).refuses(BAD, "lay", beyond, 0, 0, 1).refusesGet(BAD, beyond, 0, 0);
            w.refuses(BAD, "copy", beyond, 0, 0, 0, 1).refuses(BAD, "copy", 0, 0, beyond, 0, 1).refuses(BAD, "write", 0, beyond).refuses(BAD, "read", beyond);
        }
        Story four = new Story();
        for (int i = 0; i < 4; i++) {
            four.row(i, 2, 100 + i, 200 + i);
        }
        for (int i = 0; i < 4; i++) {
            four.items(i, 2, 100 + i, 200 + i);
        }
    }

    private static void types() {
        Story.sentence("TYPE: 0 bytes, 1 shorts, 2 ints");
        Story s = Story.world();
        s.within(3, 1, 0, 2, "sheet", 3, 0, 3);
        s.beyond(1, 0, 2, "lay", 0, 0, 0, 1);
        for (int beyond : new int[] {-1, 3, LEAST, MOST}) {
            s.refusesGet(BAD, 0, beyond, 0).refusesGet(BAD, 3, beyond, 0);
        }
        for (int type = 0; type < 3; type++) {
            for (int as = 0; as < 3; as++) {
                Story row = new Story().does(3, "sheet", 1, type, 3);
                if (as == type) {
                    row.does(1, "lay", 1, as, 2, 9).asks(9, "get", 1, as, 2);
                } else {
                    row.refuses(CAST, "lay", 1, as, 2, 9).refusesGet(CAST, 1, as, 2);
                }
            }
        }
    }

    private static void sixtyItems() {
        Story.sentence("of 0 to 60 items (0 at first).");
        for (int type = 0; type < 3; type++) {
            for (int n : new int[] {0, 1, 2, 59, 60}) {
                Story s = new Story().does(n, "sheet", 2, type, n);
                if (n > 0) {
                    s.does(1, "lay", 2, type, n - 1, 5).asks(5, "get", 2, type, n - 1).does(1, "lay", 2, type, 0, 6).asks(6, "get", 2, type, 0);
                }
                s.refuses(INDEX, "lay", 2, type, n, 5).refusesGet(INDEX, 2, type, n).refuses(INDEX, "lay", 2, type, -1, 5).refusesGet(INDEX, 2, type, -1);
                s.does(n, "lose", 2);
            }
        }
        Story.sentence("A SHEET is a new row of a TYPE with n items: n. BAD: SHEET, TYPE, above 60; SIZE.");
        Story s = Story.world();
        for (int n : new int[] {0, 1, 59, 60}) {
            s.again().does(n, "sheet", 0, 2, n).does(n, "lose", 0);
        }
        s.refuses(BAD, "sheet", 0, 2, 61).refuses(BAD, "sheet", 3, 2, 61).refuses(BAD, "sheet", 0, 2, MOST);
        s.again().refuses(SIZE, "sheet", 0, 2, -1).refuses(SIZE, "sheet", 3, 0, LEAST);
        s.again().refuses(SIZE, "sheet", 3, 0, -1);
        s.refuses(BAD, "sheet", 4, 0, -1).refuses(BAD, "sheet", 0, 3, -1).refuses(BAD, "sheet", -1, 0, -1).refuses(BAD, "sheet", 0, -1, -1);
    }

    private static void zeroAtFirst() {
        Story.sentence("A SHEET is a new row of a TYPE with n items: n.");
        for (int type = 0; type < 3; type++) {
            Story s = new Story().does(60, "sheet", 1, type, 60);
            for (int i = 0; i < 60; i++) {
                s.asks(0, "get", 1, type, i).does(1, "lay", 1, type, i, i + 1);
            }
            for (int again = 0; again < 3; again++) {
                Story anew = s.again().does(60, "sheet", 1, again, 60);
                for (int i = 0; i < 60; i++) {
                    anew.asks(0, "get", 1, again, i);
                }
            }
            Story less = s.again().does(2, "sheet", 1, type, 2).does(3, "sheet", 1, type, 3).items(1, type, 0, 0, 0);
            less.refusesGet(INDEX, 1, type, 3);
            s.again().does(60, "lose", 1).does(60, "sheet", 1, type, 60).items(1, type, 0, 0, 0, 0);
        }
    }

    private static void losing() {
        Story.sentence("It is LOST: how many items it had. BAD; NULL.");
        Story s = Story.world();
        s.again().does(3, "lose", 0).refuses(NULL, "lose", 0).asks(1, "count", 8);
        s.again().does(4, "lose", 1).refusesGet(NULL, 1, 1, 0).refuses(NULL, "lay", 1, 1, 0, 1).refuses(NULL, "write", 0, 1).refuses(NULL, "read", 1);
        s.again().does(7, "lose", 2).does(3, "lose", 0).refuses(NULL, "copy", 0, 0, 2, 0, 0);
        s.refuses(NULL, "lose", 3).refuses(BAD, "lose", 4).refuses(BAD, "lose", -1).asks(1, "count", 8);
        for (int n : new int[] {0, 1, 59, 60}) {
            new Story().does(n, "sheet", 3, 0, n).does(n, "lose", 3).refuses(NULL, "lose", 3);
        }
    }

    private static void layingBits() {
        Story.sentence("Item i, treated as of a TYPE, becomes v (the lowest bits that it has): 1.");
        int[] values = {
            0, 1, -1, 126, 127, 128, 129, 255, 256, 257, -127, -128, -129, -255, -256, -257, 32766, 32767, 32768, 65535, 65536, 65537,
            -32767, -32768, -32769, -65535, -65536, -65537, MOST, LEAST, MOST - 1, LEAST + 1, 0x12345678, 0x89abcdef,
        };
        for (int v : values) {
            new Story().does(2, "sheet", 0, 0, 2).does(1, "lay", 0, 0, 1, v).items(0, 0, 0, (byte) v);
            new Story().does(2, "sheet", 0, 1, 2).does(1, "lay", 0, 1, 1, v).items(0, 1, 0, (short) v);
            new Story().does(2, "sheet", 0, 2, 2).does(1, "lay", 0, 2, 1, v).items(0, 2, 0, v).asks(0, "count", 8);
        }
        new Story().row(0, 0, 127, 128, -128, -129).items(0, 0, 127, -128, -128, 127);
        new Story().row(0, 1, 32767, 32768, -32768, -32769).items(0, 1, 32767, -32768, -32768, 32767);
        new Story().row(0, 2, MOST, LEAST).items(0, 2, MOST, LEAST).asks(0, "count", 8);
    }

    private static void layingRefused() {
        Story.sentence("BAD; NULL; CAST; INDEX.");
        Story s = Story.world();
        s.again().refuses(INDEX, "lay", 0, 0, 3, 9).refuses(INDEX, "lay", 0, 0, -1, 9).refuses(INDEX, "lay", 0, 0, MOST, 9).refuses(INDEX, "lay", 0, 0, LEAST, 9);
        s.again().does(1, "lay", 0, 0, 0, 9).does(1, "lay", 0, 0, 2, 8).items(0, 0, 9, -1, 8);
        s.again().refuses(CAST, "lay", 0, 1, 0, 9).refuses(CAST, "lay", 0, 2, 3, 9).refuses(CAST, "lay", 1, 0, -1, 9);
        s.again().refuses(NULL, "lay", 3, 0, 0, 9).refuses(NULL, "lay", 3, 2, 61, 9);
        s.refuses(BAD, "lay", 3, 3, 0, 9).refuses(BAD, "lay", 3, -1, 61, 9).refuses(BAD, "lay", 4, 0, 0, 9).refuses(BAD, "lay", 0, 3, 3, 9);
    }

    private static void getting() {
        Story.sentence("Item i of it. BAD: the least int; so are NULL, CAST, INDEX (count() 8 tells).");
        Story s = Story.world().items(0, 0, 1, -1, 3).items(1, 1, 7, 8, 9, -10).items(2, 2, 1, 0, 3, 0, 50, 10, 4).asks(0, "count", 8);
        s.refusesGet(BAD, 4, 0, 0).refusesGet(BAD, -1, 0, 0).refusesGet(BAD, 0, 3, 0).refusesGet(BAD, 0, -1, 0).refusesGet(BAD, 3, 3, 0).asks(0, "count", 8);
        s.refusesGet(INDEX, 0, 0, 3).asks(2, "count", 8).refusesGet(NULL, 3, 0, 0).asks(1, "count", 8).refusesGet(CAST, 0, 1, 0).asks(3, "count", 8);
        s.refusesGet(INDEX, 0, 0, -1).refusesGet(INDEX, 0, 0, MOST).refusesGet(INDEX, 0, 0, LEAST).asks(2, "count", 8);
        s.refusesGet(CAST, 0, 1, 3).refusesGet(CAST, 0, 2, -1).refusesGet(NULL, 3, 1, -1).refusesGet(NULL, 3, 2, 61).asks(1, "count", 8);
        s.asks(3, "get", 0, 0, 2).asks(1, "get", 0, 0, 0).asks(1, "count", 8);
    }

    private static void copying() {
        Story.sentence("n items of SHEET s, from i on, come to SHEET t (perhaps s, as they were), from j on: 1.");
        int[] values = {11, -12, 13, -14, 15};
        for (int type = 0; type < 3; type++) {
            Story s = new Story().row(0, type, values).row(1, type, 1, 2, 3, 4);
            s.again().does(1, "copy", 0, 0, 1, 0, 4).items(1, type, 11, -12, 13, -14).items(0, type, values);
            s.again().does(1, "copy", 0, 1, 1, 0, 4).items(1, type, -12, 13, -14, 15);
            s.again().does(1, "copy", 0, 4, 1, 3, 1).items(1, type, 1, 2, 3, 15);
            s.again().does(1, "copy", 0, 0, 1, 3, 1).items(1, type, 1, 2, 3, 11);
            s.again().does(1, "copy", 0, 2, 1, 1, 2).items(1, type, 1, 13, -14, 4);
            s.again().does(1, "copy", 0, 0, 1, 0, 0).does(1, "copy", 0, 5, 1, 4, 0).does(1, "copy", 0, 5, 1, 0, 0).does(1, "copy", 0, 0, 1, 4, 0)
                    .items(1, type, 1, 2, 3, 4).items(0, type, values);
            Story long_ = new Story().does(60, "sheet", 0, type, 60).does(60, "sheet", 3, type, 60).does(1, "lay", 0, type, 0, 7).does(1, "lay", 0, type, 59, 9);
            long_.does(1, "copy", 0, 0, 3, 0, 60).asks(7, "get", 3, type, 0).asks(9, "get", 3, type, 59).does(1, "copy", 3, 59, 0, 0, 1).asks(9, "get", 0, type, 0);
            long_.refuses(INDEX, "copy", 0, 0, 3, 0, 61).refuses(INDEX, "copy", 0, 1, 3, 0, 60).refuses(INDEX, "copy", 0, 0, 3, 1, 60);
        }
        new Story().does(0, "sheet", 0, 1, 0).does(0, "sheet", 1, 1, 0).does(1, "copy", 0, 0, 1, 0, 0).refuses(INDEX, "copy", 0, 0, 1, 0, 1);
    }

    private static void copyingOntoItself() {
        Story.sentence("(perhaps s, as they were)");
        for (int type = 0; type < 3; type++) {
            Story s = new Story().row(2, type, 1, 2, 3, 4, 5);
            s.again().does(1, "copy", 2, 0, 2, 1, 4).items(2, type, 1, 1, 2, 3, 4);
            s.again().does(1, "copy", 2, 1, 2, 0, 4).items(2, type, 2, 3, 4, 5, 5);
            s.again().does(1, "copy", 2, 0, 2, 2, 3).items(2, type, 1, 2, 1, 2, 3);
            s.again().does(1, "copy", 2, 2, 2, 0, 3).items(2, type, 3, 4, 5, 4, 5);
            s.again().does(1, "copy", 2, 0, 2, 0, 5).items(2, type, 1, 2, 3, 4, 5);
            s.refuses(INDEX, "copy", 2, 0, 2, 1, 5).refuses(INDEX, "copy", 2, 1, 2, 0, 5);
        }
    }

    private static void copyingRefused() {
        Story.sentence("BAD: the SHEETS; NULL: s, t; STORE; INDEX: below 0, not so many.");
        Story s = new Story().row(0, 2, 1, 2, 3, 4, 5).row(1, 2, 6, 7, 8, 9).row(2, 1, 6, 7, 8, 9);
        int[][] bad = {
            {-1, 0, 1}, {0, -1, 1}, {0, 0, -1}, {5, 0, 1}, {4, 0, 2}, {0, 4, 1}, {0, 3, 2}, {0, 0, 5}, {0, 0, 6}, {6, 0, 0}, {0, 5, 0}, {-1, 0, 0}, {0, -1, 0},
            {MOST, 0, 1}, {0, MOST, 1}, {0, 0, MOST}, {1, 1, MOST}, {MOST, MOST, MOST}, {LEAST, 0, 1}, {0, LEAST, 1}, {0, 0, LEAST}, {5, 4, LEAST},
            {MOST, 0, 0}, {0, MOST, 0}, {5, 0, MOST}, {-1, -1, 2}, {2, 0, -1}, {0, 2, -1},
        };
        for (int[] b : bad) {
            s.again().refuses(INDEX, "copy", 0, b[0], 1, b[1], b[2]);
        }
        s.again().refuses(STORE, "copy", 0, 0, 2, 0, 1).refuses(STORE, "copy", 2, 0, 0, 0, 1);
        s.again().refuses(STORE, "copy", 0, 0, 2, 0, 0).refuses(STORE, "copy", 0, -1, 2, 0, 1).refuses(STORE, "copy", 0, 0, 2, 0, 99);
        s.again().refuses(NULL, "copy", 0, 0, 3, 0, 1).refuses(NULL, "copy", 3, 0, 0, 0, 1).refuses(NULL, "copy", 3, 0, 3, 0, 0);
        s.again().refuses(NULL, "copy", 0, -1, 3, 0, 1).refuses(NULL, "copy", 3, 0, 0, 0, -1);
        s.refuses(BAD, "copy", 3, 0, 4, 0, 1).refuses(BAD, "copy", -1, 0, 3, 0, 1).refuses(BAD, "copy", 4, -1, 0, 0, 1).refuses(BAD, "copy", 0, 0, -1, 0, -1);
    }

    private static void writing() {
        Story.sentence("PURSES of PERSONS 0 on at the END by a LAW come to a SHEET from item 0 on (the lowest bits), as many as there are items and PERSONS: how many.");
        int[] purses = new int[9];
        Story s = new Story().law(1, "o=0").does(0, "bargain", 7, 0, 3, 0, 60, 50);
        for (int p = 0; p < 8; p++) {
            s.does(1000, "purse", p, 100 + p);
            purses[p] = 100 + p;
        }
        int[] ends = purses.clone();
        ends[3] += 60;
        ends[7] -= 60;
        purses[8] = -5;
        ends[8] = -5;
        for (int n : new int[] {0, 1, 2, 4, 7, 8, 9, 59, 60}) {
            Story row = s.again().does(n, "sheet", 1, 2, n);
            if (n > 8) {
                row.does(1, "lay", 1, 2, 8, -5).does(1, "lay", 1, 2, n - 1, -5);
            }
            row.again().does(Math.min(8, n), "write", 0, 1).items(1, 2, java.util.Arrays.copyOf(ends, Math.min(n, n == 9 ? 9 : 8)));
            row.again().does(Math.min(8, n), "write", 1, 1).items(1, 2, java.util.Arrays.copyOf(purses, Math.min(n, n == 9 ? 9 : 8)));
            if (n > 8) {
                row.does(8, "write", 0, 1).asks(-5, "get", 1, 2, n - 1).asks(-5, "get", 1, 2, 8).does(n, "lose", 1);
            }
        }
        Story stands = s.again().does(8, "sheet", 1, 2, 8).does(8, "write", 0, 1).does(8, "write", 0, 1).items(1, 2, java.util.Arrays.copyOf(ends, 8));
        for (int p = 0; p < 8; p++) {
            stands.does(purses[p], "purse", p, purses[p]);
        }
        stands.asks(828, "count", 7);
        Story.sentence("how many. BAD; NULL.");
        Story world = Story.world();
        world.again().refuses(NULL, "write", 0, 3).refuses(NULL, "write", 1, 3);
        world.refuses(BAD, "write", 2, 0).refuses(BAD, "write", -1, 0).refuses(BAD, "write", 2, 3).refuses(BAD, "write", 0, 4).refuses(BAD, "write", 0, -1);
        world.again().does(3, "write", 0, 0).does(4, "write", 1, 1).does(7, "write", 0, 2);
    }

    private static void writingBits() {
        Story.sentence("come to a SHEET from item 0 on (the lowest bits)");
        int[] purses = {0, 127, 128, 255, 256, 383, 384, 9999};
        Story s = new Story().does(8, "sheet", 0, 0, 8).does(8, "sheet", 1, 1, 8).does(8, "sheet", 2, 2, 8);
        for (int p = 0; p < 8; p++) {
            s.does(1000, "purse", p, purses[p]);
        }
        s.does(8, "write", 0, 0).does(8, "write", 0, 1).does(8, "write", 0, 2);
        s.items(0, 0, 0, 127, -128, -1, 0, 127, -128, 15).items(1, 1, purses).items(2, 2, purses);
        Story most = new Story().does(1000, "purse", 7, 9999).does(8, "sheet", 1, 1, 8);
        for (int i = 0; i < 7; i++) {
            most.does(1000, "purse", i, 9999).does(i, "bargain", i, i, 7, 0, 999, 50);
        }
        most.does(8, "write", 0, 1).asks(9999 + 7 * 999, "get", 1, 1, 7).asks(9000, "get", 1, 1, 0);
    }

    private static void findings() {
        Story.sentence("FINDINGS (answers -10 less the number; they change nothing but count() 8): 1 NULL: the SHEET is LOST; 2 INDEX: there is no such item; 3 CAST: it has another TYPE; 4 STORE: unlike TYPES; 5 SIZE: below 0.");
        Story s = Story.world().asks(0, "count", 8);
        s.refuses(-11, "lose", 3).asks(1, "count", 8).refuses(-12, "lay", 0, 0, 3, 1).asks(2, "count", 8).refuses(-13, "lay", 0, 1, 0, 1).asks(3, "count", 8);
        s.refuses(-14, "copy", 0, 0, 1, 0, 1).asks(4, "count", 8).refuses(-15, "sheet", 0, 0, -1).asks(5, "count", 8).refuses(-12, "copy", 0, 0, 0, 0, 4).asks(2, "count", 8);
        s.refuses(-11, "read", 3).asks(1, "count", 8).refuses(-15, "sheet", 3, 2, LEAST).asks(5, "count", 8).refuses(-11, "write", 0, 3).asks(1, "count", 8);
    }

    private static void order() {
        Story.sentence("Refusals, the first that fits, in the order told at each act: BAD -2 (a number not as told, no such thing), NULL, NOT -3 (as told), FULL -4, other FINDINGS.");
        Story full = new Story();
        for (int i = 0; i < 12; i++) {
            full.does(i, "leave", 0, 0, 1, 1, 1, 1, 0, 0);
        }
        for (int i = 0; i < 12; i++) {
            full.does(i, "back", 0, 5, 1, i == 0 ? -1 : 6);
        }
        for (int i = 0; i < 10; i++) {
            full.does(i, "bargain", 1, i == 0 ? NONE : 0, 3, 0, 1, 5);
        }
        for (int i = 0; i < 12; i++) {
            full.does(i, "after", 0, 0, 5, 1, 1);
        }
        for (int i = 1; i <= 60; i++) {
            full.does(i, "type", 0, 'x');
        }
        full.refuses(FULL, "leave", 0, 0, 1, 1, 1, 1, 0, 0).refuses(BAD, "leave", 0, 0, 0, 1, 1, 1, 0, 0);
        full.refuses(FULL, "back", 0, 5, 1, 6).refuses(BAD, "back", 12, 5, 1, 6);
        full.refuses(NOT, "heard", 1, 6).refuses(BAD, "heard", 1, 4).refuses(BAD, "heard", 0, 4).refuses(BAD, "heard", 12, 6);
        full.refuses(FULL, "bargain", 1, 0, 3, 0, 1, 5).refuses(BAD, "bargain", 1, 0, 1, 0, 1, 5);
        full.refuses(FULL, "after", 0, 0, 5, 1, 1).refuses(BAD, "after", 10, 0, 5, 1, 1).refuses(BAD, "after", 0, 0, 4, 1, 1);
        full.refuses(FULL, "type", 0, 'x').refuses(BAD, "type", 0, 256).refuses(BAD, "type", 2, 'x');
        full.refuses(NOT, "till", 0, 0).refuses(BAD, "till", 2, 0).refuses(BAD, "till", 0, 10);
        full.refuses(NULL, "read", 0).refuses(BAD, "read", 4).refuses(NULL, "write", 0, 0).refuses(BAD, "write", 2, 0);
        full.refuses(SIZE, "sheet", 0, 0, -1).refuses(BAD, "sheet", 0, 3, -1).refuses(BAD, "sheet", 4, 0, -1);
        full.does(6, "sheet", 0, 2, 6).does(0, "read", 0).asks(10, "count", 3).refuses(CAST, "lay", 0, 1, 6, 0).refuses(BAD, "lay", 0, 3, 6, 0);
        Story.sentence("They change nothing (FINDINGS but count() 8).");
        full.asks(12, "count", 0).asks(12, "count", 1).asks(1, "count", 2).asks(10, "count", 3).asks(12, "count", 4).asks(60, "count", 5).asks(0, "count", 6).asks(8000, "count", 7).asks(3, "count", 8);
    }

    private static void counting() {
        Story.sentence("0 LEAVES, 1 BACKS, 2 OPEN ones, 3 BARGAINS, 4 AFTERS, 5, 6 bytes of LAWS, 7 all PURSES together, 8 the number of the latest FINDING (0 before any). BAD.");
        Story s = Story.world();
        int[] want = {4, 3, 1, 6, 2, 8, 15, 7030, 0};
        for (int i = 0; i < 9; i++) {
            s.asks(want[i], "count", i);
        }
        s.beyond(0, 0, 8, "count", 0);
        s.again().does(3, "back", 0, 5, 1, -1).asks(2, "count", 2).does(1, "heard", 3, 100).asks(1, "count", 2).does(1, "heard", 0, 40).asks(0, "count", 2).asks(4, "count", 1);
        Story open = new Story().does(0, "leave", 0, 0, 1, 1, 1, 1, 0, 0);
        for (int i = 0; i < 12; i++) {
            open.asks(i, "count", 2).does(i, "back", 0, 5, 1, -1);
        }
        open.asks(12, "count", 2);
        s.again().does(30, "purse", 6, 0).asks(7000, "count", 7).does(0, "purse", 6, 9999).asks(16999, "count", 7);
    }

    private static void latestFinding() {
        Story.sentence("8 the number of the latest FINDING (0 before any).");
        Story s = new Story().asks(0, "count", 8).refuses(BAD, "lose", 4).asks(0, "count", 8).refuses(NULL, "lose", 0).asks(1, "count", 8);
        s.does(1, "sheet", 0, 0, 1).asks(1, "count", 8).does(1, "lay", 0, 0, 0, 5).asks(5, "get", 0, 0, 0).asks(1, "count", 8).refuses(BAD, "count", 9).asks(1, "count", 8);
        s.does(0, "bargain", 1, NONE, 3, 0, 1, 1).refuses(NOT, "till", 0, 0).asks(1, "count", 8).refusesGet(INDEX, 0, 0, 1).asks(2, "count", 8).does(1, "lose", 0).asks(2, "count", 8);
    }

    private static List<Integer> digested(WhoseName x) {
        List<Integer> all = new ArrayList<>();
        for (int i = 0; i <= 7; i++) {
            all.add(x.count(i));
        }
        for (int law = 0; law < 2; law++) {
            all.add(x.fault(law));
            for (int i = 0; i <= 8; i++) {
                all.add(x.law(law, i));
            }
            for (int b = 0; b < x.count(3); b++) {
                all.add(x.bound(law, b, 0));
                all.add(x.bound(law, b, 1));
                all.add(x.owes(law, b));
            }
        }
        for (int p = 0; p < 8; p++) {
            all.add(x.end(0, 0, p));
        }
        for (int b = 0; b < x.count(3); b++) {
            all.add(x.end(0, 1, b));
            all.add(x.turned(b));
        }
        return all;
    }

    private static long wrapped(List<Integer> all) {
        BigInteger h = BigInteger.valueOf(17);
        for (int v : all) {
            h = h.multiply(BigInteger.valueOf(31)).add(BigInteger.valueOf(v));
        }
        return h.longValue();
    }

    private static void digestOfAll() {
        Story.sentence("h is 17; h becomes 31 h and each of: count() 0 to 7; of LAWS fault(), law() 0 to 8, of each BARGAIN bound() 0, 1, owes(); of PERSONS end() 0 by LAW 0; of BARGAINS end() 1 by LAW 0, turned()");
        for (int bargains = 0; bargains <= 10; bargains++) {
            for (String law : new String[] {"", "t=10;o=2;n=2", "b=", "c=10", "b=0;w=0;a=99"}) {
                WhoseName x = new WhoseName();
                x.leave(0, 0, 1, 1, 15, 50, 0, 99);
                x.leave(2, 5, 1, 3, 15, 50, 0, 99);
                x.back(0, 50, 1, -1);
                x.purse(0, 60);
                for (int i = 0; i < bargains; i++) {
                    x.bargain(1, i % 3 == 0 ? 0 : i % 3 == 1 ? NONE : 5, 3, 0, 45 + i, 50 + i % 2);
                    x.after(i, 0, 55 + i, i % 4 == 3 ? 0 : 1, 47);
                }
                for (int i = 0; i < law.length(); i++) {
                    x.type(bargains % 2, law.charAt(i));
                }
                Story.check("digest of " + bargains + " bargains, law " + law, x.digest(), wrapped(digested(x)));
            }
        }
        Story s = Story.world();
        long before = onWorld(0), after = onWorld(1);
        Story.check("a FINDING is not in it", after, before);
        s.refuses(NULL, "lose", 3);
    }

    private static long onWorld(int findings) {
        WhoseName x = new WhoseName();
        x.bargain(1, 0, 3, 0, 50, 50);
        for (int i = 0; i < findings; i++) {
            x.lose(3);
        }
        return x.digest();
    }

    private static void digestWraps() {
        Story.sentence("as longs that wrap.");
        WhoseName x = new WhoseName();
        List<Integer> all = digested(x);
        BigInteger h = BigInteger.valueOf(17);
        for (int v : all) {
            h = h.multiply(BigInteger.valueOf(31)).add(BigInteger.valueOf(v));
        }
        Story.check("it is beyond a long", h.bitLength() > 64 ? 1 : 0, 1);
        Story.check("digest of a new one", x.digest(), h.longValue());
        Story.check("how many numbers", all.size(), 8 + 2 * 10 + 8);
        x.bargain(1, NONE, 3, 0, 999, 50);
        Story.check("digest with a NONE", x.digest(), wrapped(digested(x)));
        x.bargain(1, 0, 3, 0, 999, 50);
        Story.check("digest with nobody BOUND", x.digest(), wrapped(digested(x)));
        Story.check("how many numbers", digested(x).size(), 8 + 2 * 10 + 8 + 2 * (3 + 3 + 2));
    }
}
