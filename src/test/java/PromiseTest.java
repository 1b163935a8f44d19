/** For each promise of the document: ordinary inputs, the edges it names, wrong inputs. */
public final class PromiseTest {
    private static final int NONE = -1, BAD = -2, NOT = -3, FULL = -4;
    private static final int NULL = -11, INDEX = -12, CAST = -13, STORE = -14, SIZE = -15;
    private static final int LEAST = Integer.MIN_VALUE;
    private static final int[] WRONG_PERSONS = {-1, -2, 8, 100, Integer.MAX_VALUE, Integer.MIN_VALUE};
    private static final int[] WRONG_FLAGS = {-1, 2, 99, Integer.MAX_VALUE, Integer.MIN_VALUE};

    private static int promise = 0;
    private static int checks = 0;
    private static int wrong = 0;

    private static void due(String call, long got, long want) {
        checks++;
        if (got != want) {
            wrong++;
            System.out.println("promise " + promise + ": " + call + " answered " + got + ", due is " + want);
        }
    }

    private static void write(WhoseName x, int law, String text) {
        x.wipe(law);
        for (int i = 0; i < text.length(); i++) {
            x.type(law, text.charAt(i));
        }
    }

    private static void fill(WhoseName x, int s, int type, int... items) {
        x.sheet(s, type, items.length);
        for (int i = 0; i < items.length; i++) {
            x.lay(s, type, i, items[i]);
        }
    }

    /** A call that is refused may change nothing that the digest tells. */
    private static void unchanged(WhoseName x, long before) {
        due("digest() after refusals", x.digest(), before);
    }

    public static void main(String[] args) {
        promise = 1; aNewObject();
        promise = 2; purse();
        promise = 3; leave();
        promise = 4; back();
        promise = 5; heard();
        promise = 6; bargain();
        promise = 7; read();
        promise = 8; after();
        promise = 9; leaveIs();
        promise = 10; bargainIs();
        promise = 11; type();
        promise = 12; wipe();
        promise = 13; fault();
        promise = 14; law();
        promise = 15; reachesForms(); reachesEdges(); reachesPassed(); ended();
        promise = 16; boundNamed(); boundUnnamed(); well();
        promise = 17; till();
        promise = 18; ask();
        promise = 19; owes();
        promise = 20; end(); endShort(); endBoth();
        promise = 21; sure();
        promise = 22; hangs();
        promise = 23; wanted();
        promise = 24; turned();
        promise = 25; letter();
        promise = 26; sheet();
        promise = 27; lose();
        promise = 28; lay();
        promise = 29; get();
        promise = 30; copy();
        promise = 31; writeEnd();
        promise = 32; count();
        promise = 33; digest(); openIsNever();
        System.out.println(wrong == 0 ? checks + " answers are as due" : wrong + " of " + checks + " answers are not as due");
        if (wrong != 0) {
            System.exit(1);
        }
    }

    private static void aNewObject() {
        due("NONE", WhoseName.NONE, -1);
        due("BAD", WhoseName.BAD, -2);
        due("NOT", WhoseName.NOT, -3);
        due("FULL", WhoseName.FULL, -4);
        WhoseName x = new WhoseName();
        int[] counts = {0, 0, 0, 0, 0, 0, 0, 8000, 0};
        for (int i = 0; i < counts.length; i++) {
            due("count(" + i + ")", x.count(i), counts[i]);
        }
        for (int i = 0; i < 4; i++) {
            due("lose of a new sheet", x.lose(i), NULL);
        }
        due("fault(0)", x.fault(0), NONE);
        due("fault(1)", x.fault(1), NONE);
    }

    private static void purse() {
        WhoseName x = new WhoseName();
        for (int i = 0; i < 8; i++) {
            due("first purse", x.purse(i, 10 + i), 1000);
        }
        due("purse(3, 9999)", x.purse(3, 9999), 13);
        due("purse(3, 0)", x.purse(3, 0), 9999);
        due("purse(3, 5)", x.purse(3, 5), 0);
        long before = x.digest();
        for (int p : WRONG_PERSONS) {
            due("purse of no person", x.purse(p, 7), BAD);
        }
        due("purse(3, -1)", x.purse(3, -1), BAD);
        due("purse(3, 10000)", x.purse(3, 10000), BAD);
        due("purse(3, least)", x.purse(3, LEAST), BAD);
        unchanged(x, before);
        due("purse(3, 5)", x.purse(3, 5), 5);
    }

    private static void leave() {
        WhoseName x = new WhoseName();
        due("a WORD", x.leave(0, 0, 1, 1, 15, 999, 0, 99), 0);
        due("a WORD not passed on", x.leave(0, 7, 0, 0, 1, 0, 99, 99), 1);
        due("a POST", x.leave(1, 2, 3, 0, 1, 5, 3, 4), 2);
        due("a SEEM", x.leave(2, 4, 5, 1, 2, 5, 3, 4), 3);
        due("a PASSED", x.leave(3, 0, 6, 1, 2, 5, 3, 4), 4);
        due("a PASSED of a PASSED", x.leave(3, 4, 1, 0, 2, 5, 3, 4), 5);
        due("a PASSED to its giver", x.leave(3, 0, 0, 0, 2, 5, 3, 4), 6);
        long before = x.digest();
        for (int p : WRONG_PERSONS) {
            due("from nobody", x.leave(0, p, 1, 0, 1, 1, 0, 0), BAD);
            due("to nobody", x.leave(0, 0, p, 0, 1, 1, 0, 0), BAD);
            due("a SEEM for nobody", x.leave(2, 0, 1, p, 1, 1, 0, 0), BAD);
            due("a PASSED to nobody", x.leave(3, 0, p, 0, 1, 1, 0, 0), BAD);
        }
        for (int f : WRONG_FLAGS) {
            due("more of a WORD", x.leave(0, 0, 1, f, 1, 1, 0, 0), BAD);
            due("more of a PASSED", x.leave(3, 0, 2, f, 1, 1, 0, 0), BAD);
            due("more of a POST", x.leave(1, 0, 1, f, 1, 1, 0, 0), BAD);
        }
        due("more of a POST is 1", x.leave(1, 0, 1, 1, 1, 1, 0, 0), BAD);
        due("form -1", x.leave(-1, 0, 1, 0, 1, 1, 0, 0), BAD);
        due("form 4", x.leave(4, 0, 1, 0, 1, 1, 0, 0), BAD);
        for (int form = 0; form < 3; form++) {
            due("to itself", x.leave(form, 1, 1, form == 2 ? 3 : 0, 1, 1, 0, 0), BAD);
        }
        due("THIRD is the giver", x.leave(2, 0, 1, 0, 1, 1, 0, 0), BAD);
        due("THIRD is the holder", x.leave(2, 0, 1, 1, 1, 1, 0, 0), BAD);
        due("passed to who passes", x.leave(3, 0, 1, 0, 1, 1, 0, 0), BAD);
        due("ROOT may not be passed on", x.leave(3, 1, 3, 0, 1, 1, 0, 0), BAD);
        due("ROOT is a POST", x.leave(3, 2, 5, 0, 1, 1, 0, 0), BAD);
        due("ROOT is a SEEM for 1", x.leave(3, 3, 6, 0, 1, 1, 0, 0), BAD);
        due("ROOT is a PASSED without more", x.leave(3, 5, 3, 0, 1, 1, 0, 0), BAD);
        due("ROOT is not told", x.leave(3, 7, 3, 0, 1, 1, 0, 0), BAD);
        due("ROOT below 0", x.leave(3, -1, 3, 0, 1, 1, 0, 0), BAD);
        due("no SORTS", x.leave(0, 0, 1, 0, 0, 1, 0, 0), BAD);
        due("SORTS 16", x.leave(0, 0, 1, 0, 16, 1, 0, 0), BAD);
        due("SORTS of a POST", x.leave(1, 0, 1, 0, 0, 1, 0, 0), BAD);
        due("LIMIT -1", x.leave(0, 0, 1, 0, 1, -1, 0, 0), BAD);
        due("LIMIT 1000", x.leave(0, 0, 1, 0, 1, 1000, 0, 0), BAD);
        due("first -1", x.leave(0, 0, 1, 0, 1, 1, -1, 0), BAD);
        due("last 100", x.leave(0, 0, 1, 0, 1, 1, 0, 100), BAD);
        due("last less", x.leave(0, 0, 1, 0, 1, 1, 5, 4), BAD);
        due("first 100", x.leave(0, 0, 1, 0, 1, 1, 100, 100), BAD);
        unchanged(x, before);
        for (int i = 7; i < 12; i++) {
            due("leave " + i, x.leave(0, 0, 1, 0, 1, 1, 0, 0), i);
        }
        before = x.digest();
        due("a thirteenth", x.leave(0, 0, 1, 0, 1, 1, 0, 0), FULL);
        due("a bad thirteenth", x.leave(0, 0, 0, 0, 1, 1, 0, 0), BAD);
        unchanged(x, before);
    }

    private static void back() {
        WhoseName x = new WhoseName();
        due("of no LEAVE", x.back(0, 5, 1, 5), BAD);
        x.leave(0, 0, 1, 1, 15, 999, 0, 99);
        due("heard at once", x.back(0, 5, 1, 5), 0);
        due("never heard", x.back(0, 5, 7, 100), 1);
        due("open", x.back(0, 99, 0, -1), 2);
        due("count(2)", x.count(2), 1);
        long before = x.digest();
        due("heard ahead", x.back(0, 5, 1, 4), BAD);
        due("heard 101", x.back(0, 5, 1, 101), BAD);
        due("heard -2", x.back(0, 5, 1, -2), BAD);
        due("sent -1", x.back(0, -1, 1, 5), BAD);
        due("sent 100", x.back(0, 100, 1, 100), BAD);
        due("leave 1", x.back(1, 5, 1, 5), BAD);
        due("leave -1", x.back(-1, 5, 1, 5), BAD);
        for (int p : WRONG_PERSONS) {
            due("heard by nobody", x.back(0, 5, p, 5), BAD);
        }
        unchanged(x, before);
        for (int i = 3; i < 12; i++) {
            due("back " + i, x.back(0, 5, 1, -1), i);
        }
        due("a thirteenth", x.back(0, 5, 1, 5), FULL);
        due("a bad thirteenth", x.back(0, 5, 1, 4), BAD);
        due("count(1)", x.count(1), 12);
        due("count(2)", x.count(2), 10);
    }

    private static void heard() {
        WhoseName x = new WhoseName();
        x.leave(0, 0, 1, 1, 15, 999, 0, 99);
        x.bargain(1, 0, 3, 0, 10, 50);
        due("no BACK", x.heard(0, 5), BAD);
        x.back(0, 40, 1, -1);
        x.back(0, 40, 1, 60);
        x.back(0, 40, 1, -1);
        x.back(0, 40, 1, -1);
        due("ahead of SENT", x.heard(0, 39), BAD);
        due("101", x.heard(0, 101), BAD);
        due("-1", x.heard(0, -1), BAD);
        due("back 4", x.heard(4, 50), BAD);
        due("back -1", x.heard(-1, 50), BAD);
        due("not OPEN", x.heard(1, 50), NOT);
        due("not OPEN, a bad day", x.heard(1, 39), BAD);
        due("never", x.heard(2, 100), 1);
        due("count(2)", x.count(2), 2);
        due("bound", x.bound(0, 0, 1), 0);
        due("the day after", x.heard(3, 51), 1);
        due("bound", x.bound(0, 0, 1), 0);
        due("on its day", x.heard(0, 50), 1);
        due("bound no more", x.bound(0, 0, 1), NONE);
        due("again", x.heard(0, 50), NOT);
        due("never, again", x.heard(2, 100), NOT);
        due("count(2)", x.count(2), 0);
    }

    private static void bargain() {
        WhoseName x = new WhoseName();
        due("for a master", x.bargain(1, 0, 3, 0, 0, 0), 0);
        due("for nobody", x.bargain(7, NONE, 0, 3, 999, 99), 1);
        due("for itself", x.bargain(2, 2, 3, 1, 10, 50), 2);
        long before = x.digest();
        for (int p : WRONG_PERSONS) {
            due("by nobody", x.bargain(p, 0, 3, 0, 1, 1), BAD);
            due("with nobody", x.bargain(1, 0, p, 0, 1, 1), BAD);
            if (p != NONE) {
                due("for a wrong one", x.bargain(1, p, 3, 0, 1, 1), BAD);
            }
        }
        due("with the DOER", x.bargain(1, 0, 1, 0, 1, 1), BAD);
        due("with the NAMED", x.bargain(1, 0, 0, 0, 1, 1), BAD);
        due("for and with itself", x.bargain(1, 1, 1, 0, 1, 1), BAD);
        due("SORT -1", x.bargain(1, 0, 3, -1, 1, 1), BAD);
        due("SORT 4", x.bargain(1, 0, 3, 4, 1, 1), BAD);
        due("WORTH -1", x.bargain(1, 0, 3, 0, -1, 1), BAD);
        due("WORTH 1000", x.bargain(1, 0, 3, 0, 1000, 1), BAD);
        due("DAY -1", x.bargain(1, 0, 3, 0, 1, -1), BAD);
        due("DAY 100", x.bargain(1, 0, 3, 0, 1, 100), BAD);
        unchanged(x, before);
        for (int i = 3; i < 10; i++) {
            due("bargain " + i, x.bargain(1, 0, 3, 0, 1, 1), i);
        }
        due("an eleventh", x.bargain(1, 0, 3, 0, 1, 1), FULL);
        due("a bad eleventh", x.bargain(1, 0, 0, 0, 1, 1), BAD);
        due("count(3)", x.count(3), 10);
    }

    private static void read() {
        WhoseName x = new WhoseName();
        due("no SHEET", x.read(-1), BAD);
        due("no SHEET", x.read(4), BAD);
        due("a LOST one", x.read(2), NULL);
        due("count(8)", x.count(8), 1);
        x.sheet(0, 2, 0);
        due("an empty one", x.read(0), 0);
        x.sheet(0, 2, 5);
        due("none whole", x.read(0), 0);
        fill(x, 0, 0, 1, -1, 3, 2, 99, 50);
        due("bytes", x.read(0), 1);
        fill(x, 0, 0, 4, 4, 5, 0, 1, 2, 1, 0, 3, 0, 1);
        due("bytes, and some more", x.read(0), 1);
        due("nobody is named", x.bargainIs(0, 1), NONE);
        due("its SORT", x.bargainIs(0, 3), 2);
        due("its WORTH", x.bargainIs(0, 4), 99);
        due("its DAY", x.bargainIs(0, 5), 50);
        due("the second DOER", x.bargainIs(1, 0), 4);
        due("the second OTHER", x.bargainIs(1, 2), 5);
        fill(x, 1, 1, 1, 0, 3, 0, 300, 0, 1, 0, 3, 0, 1000, 0, 1, 0, 3, 0, 1, 0);
        due("shorts up to a bad one", x.read(1), 1);
        due("its WORTH", x.bargainIs(2, 4), 300);
        due("count(3)", x.count(3), 3);
        int[] many = new int[60];
        for (int i = 0; i < 10; i++) {
            many[6 * i] = 1;
            many[6 * i + 2] = 3;
        }
        fill(x, 2, 2, many);
        due("until it is FULL", x.read(2), 7);
        due("count(3)", x.count(3), 10);
        due("when it is FULL", x.read(2), 0);
    }

    private static void after() {
        WhoseName x = new WhoseName();
        due("no BARGAIN", x.after(0, 0, 5, 1, 5), BAD);
        x.bargain(1, 0, 3, 0, 10, 50);
        due("on its day", x.after(0, 0, 50, 1, 0), 0);
        due("by anybody", x.after(0, 7, 99, 0, 999), 1);
        long before = x.digest();
        due("ahead of it", x.after(0, 0, 49, 1, 0), BAD);
        due("DAY 100", x.after(0, 0, 100, 1, 0), BAD);
        for (int p : WRONG_PERSONS) {
            due("nobody says", x.after(0, p, 50, 1, 0), BAD);
        }
        for (int f : WRONG_FLAGS) {
            due("neither well nor not", x.after(0, 0, 50, f, 0), BAD);
        }
        due("much -1", x.after(0, 0, 50, 1, -1), BAD);
        due("much 1000", x.after(0, 0, 50, 1, 1000), BAD);
        due("bargain 1", x.after(1, 0, 50, 1, 0), BAD);
        due("bargain -1", x.after(-1, 0, 50, 1, 0), BAD);
        unchanged(x, before);
        for (int i = 2; i < 12; i++) {
            due("after " + i, x.after(0, 2, 50, 0, 0), i);
        }
        due("a thirteenth", x.after(0, 0, 50, 1, 0), FULL);
        due("a bad thirteenth", x.after(0, 0, 49, 1, 0), BAD);
        due("count(4)", x.count(4), 12);
    }

    private static void leaveIs() {
        WhoseName x = new WhoseName();
        x.leave(0, 6, 1, 1, 5, 300, 7, 80);
        x.leave(3, 0, 2, 1, 7, 200, 10, 90);
        x.leave(3, 1, 4, 0, 15, 250, 0, 99);
        x.leave(2, 0, 1, 3, 9, 11, 2, 3);
        x.leave(1, 0, 1, 0, 9, 11, 2, 3);
        int[][] want = {
            {0, 6, 1, 1, 5, 300, 7, 80, NONE, 0},
            {3, 6, 2, 1, 7, 200, 10, 90, 0, 1},
            {3, 6, 4, 0, 15, 250, 0, 99, 1, 2},
            {2, 0, 1, 3, 9, 11, 2, 3, NONE, 0},
            {1, 0, 1, 0, 9, 11, 2, 3, NONE, 0},
        };
        for (int i = 0; i < want.length; i++) {
            for (int what = 0; what < 10; what++) {
                due("leaveIs(" + i + ", " + what + ")", x.leaveIs(i, what), want[i][what]);
            }
        }
        due("leaveIs(5, 0)", x.leaveIs(5, 0), BAD);
        due("leaveIs(-1, 0)", x.leaveIs(-1, 0), BAD);
        due("leaveIs(0, 10)", x.leaveIs(0, 10), BAD);
        due("leaveIs(0, -1)", x.leaveIs(0, -1), BAD);
    }

    private static void bargainIs() {
        WhoseName x = new WhoseName();
        x.bargain(1, NONE, 3, 2, 77, 50);
        x.bargain(4, 5, 6, 3, 999, 0);
        int[][] want = {{1, NONE, 3, 2, 77, 50}, {4, 5, 6, 3, 999, 0}};
        for (int i = 0; i < 2; i++) {
            for (int what = 0; what < 6; what++) {
                due("bargainIs(" + i + ", " + what + ")", x.bargainIs(i, what), want[i][what]);
            }
        }
        due("bargainIs(2, 0)", x.bargainIs(2, 0), BAD);
        due("bargainIs(-1, 0)", x.bargainIs(-1, 0), BAD);
        due("bargainIs(0, 6)", x.bargainIs(0, 6), BAD);
        due("bargainIs(0, -1)", x.bargainIs(0, -1), BAD);
    }

    private static void type() {
        WhoseName x = new WhoseName();
        due("law 2", x.type(2, 98), BAD);
        due("law -1", x.type(-1, 98), BAD);
        due("byte -1", x.type(0, -1), BAD);
        due("byte 256", x.type(0, 256), BAD);
        due("count(5)", x.count(5), 0);
        for (int i = 1; i <= 60; i++) {
            due("byte " + i, x.type(1, i == 1 ? 255 : 0), i);
        }
        due("a 61st", x.type(1, 98), FULL);
        due("a bad 61st", x.type(1, 256), BAD);
        due("count(6)", x.count(6), 60);
        due("count(5)", x.count(5), 0);
        due("of the other", x.type(0, 98), 1);
    }

    private static void wipe() {
        WhoseName x = new WhoseName();
        due("law 2", x.wipe(2), BAD);
        due("law -1", x.wipe(-1), BAD);
        due("an empty one", x.wipe(0), 0);
        write(x, 0, "c=5");
        write(x, 1, "c=7;q");
        due("of three", x.wipe(0), 3);
        due("as without", x.law(0, 8), 1);
        due("the other stands", x.count(6), 5);
        due("of five", x.wipe(1), 5);
        due("no fault", x.fault(1), NONE);
        due("count(6)", x.count(6), 0);
    }

    private static void fault() {
        WhoseName x = new WhoseName();
        due("law 2", x.fault(2), BAD);
        due("law -1", x.fault(-1), BAD);
        String[] well = {
            "", "b=2", "s=1", "p=99", "t=99", "a=99", "w=1", "n=2", "o=2", "c=9", "b=02", "c=09", "b=0;b=1;b=2",
            "b=1;s=0;p=00;t=5;a=10;w=0;n=1;o=2;c=3", "b=1;b=1;b=1;b=1;b=1;b=1;b=1;b=1;b=1;b=1;b=1;b=1;b=1;b=1;b=01",
        };
        for (String text : well) {
            write(x, 1, text);
            due("fault of " + text, x.fault(1), NONE);
        }
        String[] texts = {
            "b", "b=", "b=3", "b=12", "b=3x", "b=123", "s=2", "s=10", "w=2", "n=3", "o=3", "c=10", "c=99", "p=100",
            "b=1;", "b=1;;", ";", "=", "1", "B=1", "b1", "b =1", "b= 1", "b=1 ", "b==1", "b=-1", "b=1,s=1", "bs=1",
            "b=1;s", "b=1;s=", "b=1;s=2", "t=12;q=1", "b=1;t=5:", "b=3;s=2", "t=1\0", "\u00e2=1", "t=1;b=20;c=1",
        };
        int[] places = {
            1, 2, 2, 2, 2, 2, 2, 2, 2, 2, 2, 2, 2, 4,
            4, 4, 0, 0, 0, 0, 1, 1, 2, 3, 2, 2, 3, 1,
            5, 6, 6, 5, 7, 2, 3, 0, 6,
        };
        for (int i = 0; i < texts.length; i++) {
            write(x, 0, texts[i]);
            due("fault of " + texts[i], x.fault(0), places[i]);
        }
    }

    private static void law() {
        WhoseName x = new WhoseName();
        int[] first = {1, 1, 10, 0, 10, 1, 0, 1, 1};
        for (int i = 0; i < 9; i++) {
            due("law(0, " + i + ")", x.law(0, i), first[i]);
            due("law(1, " + i + ")", x.law(1, i), first[i]);
        }
        write(x, 1, "b=2;s=0;p=99;t=50;a=07;w=0;n=2;o=0;c=9");
        int[] told = {2, 0, 99, 50, 7, 0, 2, 0, 9};
        for (int i = 0; i < 9; i++) {
            due("law(1, " + i + ")", x.law(1, i), told[i]);
            due("law(0, " + i + ")", x.law(0, i), first[i]);
        }
        write(x, 0, "c=5;b=0;c=7;c=3");
        due("the last is so", x.law(0, 8), 3);
        due("beside it", x.law(0, 0), 0);
        x.type(0, ';');
        due("with a FAULT", x.law(0, 8), 1);
        due("with a FAULT", x.law(0, 0), 1);
        write(x, 0, "c=5;b=3");
        due("with a number that may not be", x.law(0, 8), 1);
        due("law(2, 0)", x.law(2, 0), BAD);
        due("law(-1, 0)", x.law(-1, 0), BAD);
        due("law(0, 9)", x.law(0, 9), BAD);
        due("law(0, -1)", x.law(0, -1), BAD);
    }

    private static void reachesForms() {
        WhoseName x = new WhoseName();
        x.leave(0, 0, 1, 0, 1, 100, 0, 99);
        x.leave(1, 0, 1, 0, 1, 0, 0, 99);
        x.leave(2, 0, 1, 3, 1, 100, 0, 99);
        x.bargain(1, 0, 3, 0, 100, 50);
        x.bargain(1, 0, 4, 2, 100, 50);
        x.bargain(1, NONE, 3, 0, 100, 50);
        x.bargain(1, 2, 3, 0, 100, 50);
        x.bargain(2, 0, 3, 0, 100, 50);
        x.bargain(1, 1, 3, 0, 100, 50);
        int[][] want = {{1, 1, 1}, {0, 1, 0}, {1, 1, 0}, {0, 0, 0}, {0, 0, 0}, {0, 0, 0}};
        for (int b = 0; b < 6; b++) {
            for (int l = 0; l < 3; l++) {
                due("reaches(0, " + l + ", " + b + ", 0)", x.reaches(0, l, b, 0), want[b][l]);
            }
        }
        write(x, 1, "s=0");
        due("a SEEM where s is 0", x.reaches(1, 2, 0, 0), 0);
        due("a WORD where s is 0", x.reaches(1, 0, 0, 0), 1);
        due("law 2", x.reaches(2, 0, 0, 0), BAD);
        due("law -1", x.reaches(-1, 0, 0, 0), BAD);
        due("leave 3", x.reaches(0, 3, 0, 0), BAD);
        due("leave -1", x.reaches(0, -1, 0, 0), BAD);
        due("bargain 6", x.reaches(0, 0, 6, 0), BAD);
        due("bargain -1", x.reaches(0, 0, -1, 0), BAD);
        for (int f : WRONG_FLAGS) {
            due("what", x.reaches(0, 0, 0, f), BAD);
        }
    }

    private static void reachesEdges() {
        WhoseName x = new WhoseName();
        x.leave(0, 0, 1, 0, 4, 55, 10, 20);
        x.leave(1, 0, 1, 0, 1, 0, 10, 20);
        x.bargain(1, 0, 3, 2, 55, 10);
        x.bargain(1, 0, 3, 2, 55, 20);
        x.bargain(1, 0, 3, 2, 55, 9);
        x.bargain(1, 0, 3, 2, 55, 21);
        x.bargain(1, 0, 3, 2, 56, 15);
        x.bargain(1, 0, 3, 3, 55, 15);
        x.bargain(1, 0, 3, 2, 60, 15);
        x.bargain(1, 0, 3, 2, 61, 15);
        int[] word = {1, 1, 0, 0, 0, 0, 0, 0};
        int[] post = {1, 1, 0, 0, 1, 1, 1, 1};
        int[] wordTenth = {1, 1, 0, 0, 1, 0, 1, 0};
        int[] smallPost = {1, 1, 0, 0, 1, 1, 1, 0};
        write(x, 1, "p=6;t=10");
        for (int b = 0; b < 8; b++) {
            due("a WORD, bargain " + b, x.reaches(0, 0, b, 0), word[b]);
            due("a POST, bargain " + b, x.reaches(0, 1, b, 0), post[b]);
            due("a WORD and a tenth, bargain " + b, x.reaches(1, 0, b, 0), wordTenth[b]);
        }
        write(x, 1, "p=6");
        for (int b = 0; b < 8; b++) {
            due("a small POST, bargain " + b, x.reaches(1, 1, b, 0), smallPost[b]);
        }
        write(x, 1, "p=5;t=21");
        due("a POST, hundredths cut", x.reaches(1, 1, 6, 0), 1);
        due("a POST, hundredths cut", x.reaches(1, 1, 7, 0), 0);
        write(x, 1, "p=0");
        due("a POST for nothing", x.reaches(1, 1, 0, 0), 0);
    }

    private static void reachesPassed() {
        WhoseName x = new WhoseName();
        x.leave(0, 0, 1, 1, 3, 100, 10, 60);
        x.leave(3, 0, 2, 1, 7, 200, 20, 70);
        x.leave(3, 1, 4, 1, 15, 300, 0, 99);
        x.leave(3, 2, 5, 1, 15, 300, 0, 99);
        x.bargain(4, 0, 3, 0, 100, 50);
        x.bargain(4, NONE, 3, 0, 100, 50);
        x.bargain(4, 2, 3, 0, 100, 50);
        x.bargain(4, 0, 3, 2, 100, 50);
        x.bargain(4, 0, 3, 0, 101, 50);
        x.bargain(4, 0, 3, 0, 100, 19);
        x.bargain(4, 0, 3, 0, 100, 61);
        x.bargain(2, 0, 3, 0, 100, 50);
        x.bargain(5, 0, 3, 0, 100, 50);
        due("twice, c is 1", x.reaches(0, 2, 0, 0), 0);
        due("once, c is 1", x.reaches(0, 1, 7, 0), 1);
        write(x, 0, "c=2");
        int[] want = {1, 1, 0, 0, 0, 0, 0};
        for (int b = 0; b < 7; b++) {
            due("twice, bargain " + b, x.reaches(0, 2, b, 0), want[b]);
        }
        due("thrice, c is 2", x.reaches(0, 3, 8, 0), 0);
        write(x, 0, "c=3");
        due("thrice, c is 3", x.reaches(0, 3, 8, 0), 1);
        write(x, 0, "c=0");
        due("once, c is 0", x.reaches(0, 1, 7, 0), 0);
        write(x, 0, "c=2;t=1");
        due("a hundredth more", x.reaches(0, 2, 4, 0), 1);
        write(x, 0, "c=3");
        x.back(1, 30, 2, 50);
        due("its ROOT is ENDED", x.reaches(0, 2, 0, 0), 0);
        due("the ROOT of its ROOT is ENDED", x.reaches(0, 3, 8, 0), 0);
        due("it itself is not", x.reaches(0, 2, 0, 1), 0);
        due("the ROOT is", x.reaches(0, 1, 0, 1), 1);
    }

    private static void ended() {
        WhoseName x = new WhoseName();
        for (int i = 0; i < 5; i++) {
            x.leave(i == 4 ? 2 : 0, 0, 1, i == 4 ? 3 : 0, 15, 100, 0, 99);
        }
        x.back(0, 50, 7, 100);
        x.back(1, 10, 1, 50);
        x.back(2, 10, 3, 50);
        x.back(3, 10, 1, -1);
        x.back(3, 51, 3, 51);
        x.back(4, 10, 1, 10);
        x.bargain(1, 0, 3, 0, 10, 50);
        int[][] want = {{1, 1, 1, 1, 0}, {0, 1, 0, 0, 0}, {0, 0, 1, 0, 0}};
        for (int b = 0; b < 3; b++) {
            write(x, 0, "b=" + b);
            for (int l = 0; l < 5; l++) {
                due("ENDED by b=" + b + ", leave " + l, x.reaches(0, l, 0, 1), want[b][l]);
                due("reaches by b=" + b + ", leave " + l, x.reaches(0, l, 0, 0), 1 - want[b][l]);
            }
        }
        x.bargain(1, 0, 3, 0, 10, 49);
        write(x, 0, "b=0");
        due("a day ahead of SENT", x.reaches(0, 0, 1, 1), 0);
        write(x, 0, "b=1");
        due("a day ahead of HEARD", x.reaches(0, 1, 1, 1), 0);
        write(x, 0, "b=2");
        due("a day ahead of HEARD by the OTHER", x.reaches(0, 2, 1, 1), 0);
        x.back(4, 10, 3, 50);
        for (int b = 0; b < 3; b++) {
            write(x, 0, "b=" + b);
            due("a SEEM is ENDED by its THIRD, b=" + b, x.reaches(0, 4, 0, 1), 1);
            due("not ahead of it, b=" + b, x.reaches(0, 4, 1, 1), 0);
        }
        x.bargain(1, 0, 5, 0, 10, 50);
        write(x, 0, "b=2");
        due("another OTHER did not hear", x.reaches(0, 2, 2, 1), 0);
        due("of a SEEM it is the THIRD", x.reaches(0, 4, 2, 1), 1);
    }

    private static void boundNamed() {
        WhoseName x = new WhoseName();
        x.leave(0, 0, 1, 0, 1, 10, 0, 99);
        x.leave(0, 0, 1, 0, 1, 100, 0, 99);
        x.leave(0, 0, 1, 0, 1, 200, 0, 99);
        x.bargain(1, 0, 3, 0, 50, 50);
        x.bargain(1, 0, 3, 1, 50, 50);
        x.bargain(1, 1, 3, 0, 50, 50);
        x.bargain(1, 5, 3, 0, 50, 50);
        int[] bits = {1, 0, 2, 0};
        int[] why = {1, NONE, 30, NONE};
        for (int b = 0; b < 4; b++) {
            due("bound(0, " + b + ", 0)", x.bound(0, b, 0), bits[b]);
            due("bound(0, " + b + ", 1)", x.bound(0, b, 1), why[b]);
        }
        due("law 2", x.bound(2, 0, 0), BAD);
        due("law -1", x.bound(-1, 0, 0), BAD);
        due("bargain 4", x.bound(0, 4, 0), BAD);
        due("bargain -1", x.bound(0, -1, 0), BAD);
        for (int f : WRONG_FLAGS) {
            due("what", x.bound(0, 0, f), BAD);
        }
    }

    private static void boundUnnamed() {
        WhoseName x = new WhoseName();
        x.leave(2, 4, 1, 3, 15, 100, 0, 99);
        x.leave(0, 6, 1, 1, 15, 40, 0, 99);
        x.leave(0, 5, 1, 1, 15, 100, 0, 99);
        x.leave(3, 1, 6, 0, 15, 100, 0, 99);
        x.bargain(1, NONE, 3, 0, 50, 50);
        x.bargain(1, NONE, 3, 0, 40, 50);
        x.bargain(1, NONE, 3, 0, 101, 50);
        x.bargain(6, NONE, 3, 0, 10, 50);
        int[] why = {2, 1, 30, 3};
        int[][] bits = {{2, 2, 2, 64}, {32, 64, 2, 64}, {34, 66, 2, 64}};
        for (int n = 0; n < 3; n++) {
            write(x, 1, "n=" + n);
            for (int b = 0; b < 4; b++) {
                due("n=" + n + ", bargain " + b, x.bound(1, b, 0), bits[n][b]);
                due("why by n=" + n + ", bargain " + b, x.bound(1, b, 1), why[b]);
            }
        }
    }

    private static void well() {
        WhoseName x = new WhoseName();
        write(x, 1, "w=0;a=5");
        for (int i = 0; i < 10; i++) {
            x.bargain(1, i == 8 ? NONE : i == 9 ? 1 : 0, 3, 0, 50, 50);
        }
        WhoseName y = new WhoseName();
        y.bargain(1, 0, 3, 0, 50, 50);
        y.after(0, 0, 50, 0, 50);
        y.after(0, 0, 50, 1, 50);
        due("the first thing said is not", y.bound(0, 0, 1), NONE);
        x.after(0, 0, 60, 1, 50);
        due("on the last day", x.bound(0, 0, 1), 20);
        due("its bits", x.bound(0, 0, 0), 1);
        due("five days behind by law 1", x.bound(1, 0, 1), NONE);
        x.after(1, 0, 61, 1, 50);
        due("a day late", x.bound(0, 1, 1), NONE);
        x.after(2, 0, 55, 1, 49);
        due("of too little", x.bound(0, 2, 1), NONE);
        due("where that is not asked", x.bound(1, 2, 1), 20);
        x.after(3, 1, 55, 1, 50);
        due("said by the DOER", x.bound(0, 3, 1), NONE);
        x.after(4, 0, 52, 1, 50);
        x.after(4, 0, 51, 0, 0);
        due("ahead of it not, though told later", x.bound(0, 4, 1), NONE);
        x.after(5, 0, 52, 1, 50);
        x.after(5, 0, 52, 0, 50);
        due("not, on the same day, told later", x.bound(0, 5, 1), 20);
        x.after(6, 0, 52, 0, 50);
        x.after(6, 0, 52, 1, 50);
        due("not, on the same day, told ahead", x.bound(0, 6, 1), NONE);
        x.after(7, 5, 50, 0, 50);
        x.after(7, 0, 52, 1, 50);
        due("not, said by another", x.bound(0, 7, 1), 20);
        x.after(9, 1, 50, 0, 50);
        due("the DOER is bound whatever it says", x.bound(0, 9, 1), 30);
        x.leave(0, 0, 1, 0, 1, 50, 0, 99);
        due("a LEAVE goes ahead of it", x.bound(0, 0, 1), 0);
    }

    private static void till() {
        WhoseName x = new WhoseName();
        x.bargain(1, 0, 3, 0, 50, 50);
        x.bargain(1, NONE, 3, 0, 50, 50);
        x.bargain(1, 1, 3, 0, 50, 50);
        x.bargain(1, 0, 3, 0, 50, 90);
        due("till(0, 0)", x.till(0, 0), 60);
        due("nobody is named", x.till(0, 1), NOT);
        due("the DOER is named", x.till(0, 2), NOT);
        due("till(0, 3)", x.till(0, 3), 99);
        write(x, 1, "a=0");
        due("a is 0", x.till(1, 3), 90);
        write(x, 1, "a=49");
        due("a is 49", x.till(1, 0), 99);
        write(x, 1, "a=48");
        due("a is 48", x.till(1, 0), 98);
        due("law 2", x.till(2, 0), BAD);
        due("law 2, none named", x.till(2, 1), BAD);
        due("bargain 4", x.till(0, 4), BAD);
        due("bargain -1", x.till(0, -1), BAD);
    }

    private static void ask() {
        WhoseName x = new WhoseName();
        x.leave(0, 0, 1, 0, 1, 100, 0, 99);
        x.bargain(1, 0, 3, 0, 59, 50);
        x.bargain(1, 0, 3, 1, 59, 50);
        x.bargain(1, NONE, 3, 0, 59, 50);
        x.bargain(1, NONE, 3, 1, 59, 50);
        int[] unbound = {0, 59, 64};
        for (int o = 0; o < 3; o++) {
            write(x, 1, "n=2;o=" + o);
            int[][] want = {{59, 0, 0}, {0, unbound[o], 0}, {59, 59, 0}, {0, 59, 0}};
            for (int b = 0; b < 4; b++) {
                for (int p = 0; p < 8; p++) {
                    due("o=" + o + ": ask(1, " + b + ", " + p + ")", x.ask(1, b, p), p < 2 ? want[b][p] : 0);
                }
            }
        }
        for (int p : WRONG_PERSONS) {
            due("of nobody", x.ask(0, 0, p), BAD);
        }
        due("law 2", x.ask(2, 0, 0), BAD);
        due("bargain 4", x.ask(0, 4, 0), BAD);
        due("bargain -1", x.ask(0, -1, 0), BAD);
    }

    private static void owes() {
        WhoseName x = new WhoseName();
        x.leave(0, 0, 1, 1, 1, 50, 0, 99);
        x.leave(1, 5, 1, 0, 1, 999, 0, 99);
        x.leave(2, 6, 1, 3, 15, 100, 0, 99);
        x.leave(3, 0, 2, 0, 1, 45, 0, 99);
        write(x, 0, "t=20;p=6");
        x.bargain(1, 0, 3, 0, 60, 50);
        x.bargain(1, 5, 3, 3, 72, 50);
        x.bargain(1, 6, 3, 0, 30, 50);
        x.bargain(2, 0, 3, 0, 54, 50);
        x.bargain(1, 0, 3, 0, 50, 50);
        x.bargain(1, 0, 3, 0, 40, 50);
        x.bargain(1, NONE, 3, 0, 60, 50);
        x.bargain(1, 0, 3, 2, 60, 50);
        x.bargain(1, 1, 3, 2, 60, 50);
        x.bargain(4, 0, 3, 0, 500, 50);
        x.after(7, 0, 50, 1, 60);
        int[] want = {10, 12, 30, 9, 0, 0, 0, 0, 0, 0};
        for (int b = 0; b < 10; b++) {
            due("owes(0, " + b + ")", x.owes(0, b), want[b]);
        }
        write(x, 0, "t=20;n=1");
        due("its GIVER is bound, none named", x.owes(0, 6), 10);
        write(x, 0, "t=20;n=2");
        due("both are bound, none named", x.owes(0, 6), 10);
        due("law 2", x.owes(2, 0), BAD);
        due("law -1", x.owes(-1, 0), BAD);
        due("bargain 10", x.owes(0, 10), BAD);
        due("bargain -1", x.owes(0, -1), BAD);
    }

    private static void end() {
        WhoseName x = new WhoseName();
        x.leave(0, 0, 1, 1, 1, 50, 0, 99);
        x.leave(2, 6, 1, 3, 15, 100, 0, 99);
        write(x, 0, "t=20;o=2");
        x.bargain(1, 0, 3, 0, 60, 50);
        x.bargain(1, 6, 3, 0, 100, 50);
        x.bargain(2, 6, 3, 0, 105, 50);
        x.bargain(3, 3, 5, 0, 200, 50);
        int[] want = {950, 890, 885, 1075, 1000, 1200, 1000, 1000};
        for (int p = 0; p < 8; p++) {
            due("end(0, 0, " + p + ")", x.end(0, 0, p), want[p]);
            due("purse stands", x.purse(p, 1000), 1000);
        }
        for (int b = 0; b < 4; b++) {
            due("end(0, 1, " + b + ")", x.end(0, 1, b), 0);
        }
        for (int p : WRONG_PERSONS) {
            due("of nobody", x.end(0, 0, p), BAD);
        }
        due("bargain 4", x.end(0, 1, 4), BAD);
        due("bargain -1", x.end(0, 1, -1), BAD);
        due("law 2", x.end(2, 0, 0), BAD);
        due("which 2", x.end(0, 2, 0), BAD);
        due("which -1", x.end(0, -1, 0), BAD);
    }

    private static void endShort() {
        WhoseName x = new WhoseName();
        x.leave(0, 0, 1, 1, 1, 50, 0, 99);
        x.leave(2, 6, 1, 3, 15, 100, 0, 99);
        write(x, 0, "t=90;o=0");
        x.purse(0, 70);
        x.purse(1, 15);
        x.purse(3, 0);
        x.purse(6, 40);
        x.purse(2, 5);
        x.bargain(1, 0, 3, 0, 90, 50);
        due("the bound one has too little", x.end(0, 1, 0), 20);
        due("the DOER has too little", x.end(0, 0, 0), 15);
        due("and has none left", x.end(0, 0, 1), 0);
        due("the OTHER", x.end(0, 0, 3), 70);
        x.purse(1, 500);
        due("no more than WORTH is above the LIMIT", x.end(0, 0, 0), 40);
        x.bargain(1, 6, 3, 0, 100, 50);
        due("a SEEM: what was paid", x.end(0, 0, 6), 40);
        due("the DOER paid 40 and 40", x.end(0, 0, 1), 420);
        due("LOST", x.end(0, 1, 1), 60);
        x.bargain(2, 6, 3, 0, 90, 50);
        due("nothing may be asked", x.end(0, 0, 2), 5);
        due("nothing is LOST", x.end(0, 1, 2), 0);
        x.bargain(3, 3, 5, 0, 200, 50);
        due("the OTHER pays from what it got", x.end(0, 0, 5), 1110);
        due("LOST", x.end(0, 1, 3), 90);
        write(x, 0, "t=90;o=2");
        due("the DOER has 5 of 99", x.end(0, 1, 2), 94);
    }

    private static void endBoth() {
        WhoseName x = new WhoseName();
        x.leave(0, 4, 1, 1, 1, 50, 0, 99);
        write(x, 0, "t=90;n=2");
        x.purse(4, 10);
        x.bargain(1, NONE, 3, 0, 80, 50);
        due("paid once", x.end(0, 0, 3), 1080);
        due("the DOER last, and gives back no more than was paid by who is BOUND", x.end(0, 0, 4), 10);
        due("the DOER", x.end(0, 0, 1), 920);
        due("LOST", x.end(0, 1, 0), 0);
        x.purse(4, 60);
        due("60 of it by who is BOUND, 30 back", x.end(0, 0, 4), 30);
        due("the DOER", x.end(0, 0, 1), 950);
        x.purse(4, 1000);
        due("all by who is BOUND, 30 back", x.end(0, 0, 4), 950);
        x.bargain(1, NONE, 4, 0, 80, 50);
        due("the OTHER is the GIVER", x.end(0, 0, 4), 980);
        due("LOST", x.end(0, 1, 1), 0);
    }

    private static void sure() {
        WhoseName x = new WhoseName();
        x.leave(0, 0, 1, 1, 15, 50, 0, 99);
        x.leave(0, 5, 4, 1, 15, 50, 0, 99);
        x.bargain(1, 0, 3, 0, 50, 50);
        x.bargain(1, NONE, 3, 0, 50, 50);
        x.bargain(1, 1, 3, 0, 50, 50);
        x.bargain(1, 0, 3, 0, 50, 20);
        due("nothing is open", x.sure(0, 0, 0), 2);
        due("nothing is open", x.sure(0, 0, 1), 0);
        x.back(0, 21, 1, -1);
        due("in some", x.sure(0, 0, 0), 1);
        due("in none", x.sure(0, 0, 1), 0);
        due("sent behind it", x.sure(0, 3, 0), 2);
        due("it itself", x.sure(0, 2, 1), 2);
        write(x, 1, "n=1");
        due("the DOER, if it is taken back", x.sure(1, 1, 1), 1);
        due("the GIVER, if not", x.sure(1, 1, 0), 1);
        write(x, 1, "n=2");
        due("the DOER in each WAY", x.sure(1, 1, 1), 2);
        write(x, 1, "b=0");
        due("by SENT it is taken back", x.sure(1, 0, 0), 0);
        for (int i = 0; i < 5; i++) {
            x.back(1, 10, 4, -1);
        }
        x.bargain(4, 5, 3, 0, 50, 50);
        due("the sixth counts", x.sure(0, 4, 5), 1);
        WhoseName y = new WhoseName();
        y.leave(0, 0, 1, 1, 15, 50, 0, 99);
        y.leave(0, 5, 4, 1, 15, 50, 0, 99);
        y.bargain(1, 0, 3, 0, 50, 50);
        for (int i = 0; i < 6; i++) {
            y.back(1, 10, 4, -1);
        }
        y.back(0, 10, 1, -1);
        due("the seventh is never", y.sure(0, 0, 0), 2);
        y.heard(2, 100);
        due("then it counts", y.sure(0, 0, 0), 1);
        for (int p : WRONG_PERSONS) {
            due("nobody", x.sure(0, 0, p), BAD);
        }
        due("law 2", x.sure(2, 0, 0), BAD);
        due("bargain 5", x.sure(0, 5, 0), BAD);
        due("bargain -1", x.sure(0, -1, 0), BAD);
    }

    private static WhoseName withSevenOpen() {
        WhoseName x = new WhoseName();
        x.leave(0, 0, 1, 1, 15, 50, 0, 99);
        x.leave(0, 0, 1, 1, 15, 50, 0, 99);
        x.back(0, 10, 1, 60);
        x.back(0, 10, 1, -1);
        x.back(0, 60, 1, -1);
        x.back(1, 10, 2, -1);
        x.back(1, 10, 1, -1);
        x.back(1, 50, 1, -1);
        x.back(1, 51, 1, -1);
        x.back(0, 10, 1, -1);
        x.bargain(1, 0, 3, 0, 50, 50);
        x.bargain(1, 0, 3, 0, 50, 49);
        x.bargain(1, 0, 3, 0, 51, 50);
        x.bargain(1, 0, 2, 0, 50, 50);
        return x;
    }

    private static void hangs() {
        WhoseName x = withSevenOpen();
        int[] want = {BAD, 1, 0, 0, 1, 1, 0, BAD};
        int[] second = {BAD, 1, 0, 0, 1, 0, 0, BAD};
        int[] third = {BAD, 0, 0, 0, 0, 0, 0, BAD};
        for (int k = 0; k < 8; k++) {
            due("hangs(0, 0, " + k + ")", x.hangs(0, 0, k), want[k]);
            due("hangs(0, 1, " + k + ")", x.hangs(0, 1, k), second[k]);
            due("hangs(0, 2, " + k + ")", x.hangs(0, 2, k), third[k]);
        }
        write(x, 1, "b=2");
        due("the OTHER hears one, the other LEAVE stands", x.hangs(1, 3, 3), 0);
        x.back(0, 10, 2, 10);
        due("the other LEAVE is ENDED", x.hangs(1, 3, 3), 1);
        due("back 9", x.hangs(0, 0, 9), BAD);
        due("back -1", x.hangs(0, 0, -1), BAD);
        due("bargain 4", x.hangs(0, 4, 1), BAD);
        due("bargain -1", x.hangs(0, -1, 1), BAD);
        due("law 2", x.hangs(2, 0, 1), BAD);
        due("law -1", x.hangs(-1, 0, 1), BAD);
        x.heard(3, 100);
        due("it is not OPEN now", x.hangs(0, 0, 3), BAD);
        due("it counts now", x.hangs(0, 0, 7), 1);
    }

    private static void wanted() {
        WhoseName x = withSevenOpen();
        due("wanted(0, 0)", x.wanted(0, 0), 2 + 16 + 32);
        due("wanted(0, 1)", x.wanted(0, 1), 2 + 16);
        due("wanted(0, 2)", x.wanted(0, 2), 0);
        write(x, 1, "b=0");
        due("by SENT", x.wanted(1, 0), 0);
        x.heard(1, 30);
        due("one is ENDED, the seventh counts, too", x.wanted(0, 0), 16 + 32);
        x.heard(4, 30);
        due("both are ENDED", x.wanted(0, 0), 0);
        due("law 2", x.wanted(2, 0), BAD);
        due("law -1", x.wanted(-1, 0), BAD);
        due("bargain 4", x.wanted(0, 4), BAD);
        due("bargain -1", x.wanted(0, -1), BAD);
    }

    private static void turned() {
        WhoseName x = new WhoseName();
        x.leave(0, 0, 1, 1, 1, 100, 0, 99);
        x.leave(3, 0, 2, 0, 1, 100, 0, 99);
        x.leave(2, 5, 1, 3, 1, 100, 0, 99);
        x.leave(1, 6, 1, 0, 1, 1, 0, 99);
        x.back(0, 10, 3, 10);
        x.bargain(1, 0, 3, 0, 100, 50);
        x.bargain(2, 0, 4, 0, 105, 50);
        x.bargain(1, 5, 3, 0, 100, 50);
        x.bargain(1, 6, 3, 0, 60, 50);
        x.bargain(1, 7, 3, 0, 60, 50);
        x.bargain(1, NONE, 4, 0, 90, 50);
        x.bargain(1, 1, 4, 0, 90, 50);
        x.bargain(2, 0, 3, 0, 100, 50);
        x.bargain(1, 0, 4, 3, 60, 50);
        x.after(4, 7, 65, 1, 10);
        x.after(8, 0, 50, 1, 10);
        for (int b = 0; b < 9; b++) {
            due("like laws, bargain " + b, x.turned(b), 0);
        }
        write(x, 0, "b=1;s=1;p=10;t=0;a=10;w=1;n=0;o=1;c=0");
        write(x, 1, "b=2;s=0;p=5;t=5;a=20;w=0;n=2;o=2;c=3");
        int[] want = {1, 8 + 256, 2, 4, 16 + 32, 64, 0, 0, 32};
        for (int b = 0; b < 9; b++) {
            due("turned(" + b + ")", x.turned(b), want[b]);
        }
        WhoseName y = new WhoseName();
        y.leave(0, 0, 1, 1, 1, 100, 0, 99);
        y.back(0, 60, 3, 60);
        y.bargain(1, 0, 3, 0, 105, 50);
        y.after(0, 0, 65, 1, 105);
        write(y, 1, "a=20;t=5");
        due("of like ones the least", y.turned(0), 8);
        y.bargain(1, 0, 3, 0, 105, 65);
        y.after(1, 0, 80, 1, 110);
        write(y, 0, "a=0;b=2;w=1;t=0");
        write(y, 1, "a=20;b=2;w=0;t=9");
        due("t does not help, where it is ENDED", y.turned(1), 16);
        WhoseName z = new WhoseName();
        z.leave(1, 0, 1, 0, 1, 0, 0, 99);
        z.bargain(1, 0, 3, 0, 66, 50);
        z.after(0, 0, 50, 1, 10);
        write(z, 0, "p=5");
        write(z, 1, "p=6;t=10;w=0");
        due("one letter goes ahead of two lesser ones", z.turned(0), 32);
        write(z, 1, "p=6;t=10");
        due("two letters", z.turned(0), 4 + 8);
        due("bargain 9", x.turned(9), BAD);
        due("bargain -1", x.turned(-1), BAD);
    }

    private static void letter() {
        WhoseName x = new WhoseName();
        x.bargain(1, 0, 3, 0, 95, 10);
        x.bargain(1, 0, 4, 1, 200, 20);
        x.bargain(1, 0, 3, 2, 30, 99);
        x.bargain(1, 2, 3, 0, 20, 30);
        x.bargain(5, 0, 3, 0, 20, 30);
        x.bargain(1, NONE, 3, 0, 20, 30);
        int[] sets = {0, 1, 2, 3, 4, 5, 6, 7};
        int[] sorts = {1, 1, 2, 3, 4, 5, 6, 7};
        int[] limits = {0, 100, 200, 200, 30, 100, 200, 200};
        for (int i = 0; i < sets.length; i++) {
            due("SORTS for " + sets[i], x.letter(0, 1, sets[i], 0), sorts[i]);
            due("LIMIT for " + sets[i], x.letter(0, 1, sets[i], 1), limits[i]);
        }
        due("for others", x.letter(0, 1, 8, 0), BAD);
        due("by others", x.letter(0, 1, 16, 0), BAD);
        due("for none", x.letter(0, 1, 32, 0), BAD);
        due("there is no such", x.letter(0, 1, 64, 0), BAD);
        due("there is no such", x.letter(0, 1, 1 << 30, 0), BAD);
        due("below 0", x.letter(0, 1, -1, 0), BAD);
        due("below 0", x.letter(0, 1, LEAST, 0), BAD);
        due("to itself", x.letter(0, 0, 0, 0), BAD);
        for (int p : WRONG_PERSONS) {
            due("from nobody", x.letter(p, 1, 0, 0), BAD);
            due("to nobody", x.letter(0, p, 0, 0), BAD);
        }
        for (int f : WRONG_FLAGS) {
            due("what", x.letter(0, 1, 0, f), BAD);
        }
        due("between others", x.letter(6, 7, 0, 0), 1);
        due("between others", x.letter(6, 7, 0, 1), 0);
        x.bargain(1, 0, 3, 0, 501, 10);
        due("beyond 500", x.letter(0, 1, 64, 1), NONE);
        write(x, 0, "t=1");
        due("by both LAWS", x.letter(0, 1, 64 + 1, 1), NONE);
        write(x, 1, "t=1");
        due("500 and a hundredth", x.letter(0, 1, 64 + 1, 1), 500);
        write(x, 0, "t=0");
        due("by both LAWS", x.letter(0, 1, 64 + 1, 1), NONE);
        write(x, 0, "t=99");
        write(x, 1, "t=99");
        due("95 by 50 and 99 hundredths", x.letter(0, 1, 1, 1), 50);
        x.leave(0, 0, 1, 0, 1, 10, 0, 99);
        due("a LEAVE that reaches none", x.letter(0, 1, 1, 1), 50);
        x.leave(0, 0, 1, 0, 1, 60, 0, 99);
        due("bound already, then any that reaches no other", x.letter(0, 1, 1, 0), 1);
        due("the least", x.letter(0, 1, 1, 1), 0);
        due("bound already, but not in the set", x.letter(0, 1, 0, 0), NONE);
        WhoseName y = new WhoseName();
        y.bargain(1, 0, 3, 0, 0, 10);
        due("worth nothing, not to be bound", y.letter(0, 1, 0, 0), 2);
        y.bargain(1, 0, 3, 1, 0, 10);
        y.bargain(1, 0, 3, 2, 0, 10);
        y.bargain(1, 0, 3, 3, 0, 10);
        due("no SORT is left", y.letter(0, 1, 0, 0), NONE);
        for (int set = 1; set < 16; set++) {
            due("SORTS " + set, y.letter(0, 1, set, 0), set);
        }
        y.leave(0, 0, 1, 0, 1, 60, 0, 99);
        write(y, 0, "b=0");
        y.back(0, 5, 4, 100);
        due("bound by LAW 1 alone, not in the set", y.letter(0, 1, 8, 0), NONE);
        due("bound by LAW 1 alone, in the set", y.letter(0, 1, 9, 0), 9);
        write(y, 1, "b=0");
        write(y, 0, "b=1");
        due("bound by LAW 0 alone, not in the set", y.letter(0, 1, 8, 0), NONE);
        due("bound by LAW 0 alone, in the set", y.letter(0, 1, 9, 0), 9);
        write(y, 1, "b=1");
        due("bound by both", y.letter(0, 1, 9, 0), 8);
        write(y, 0, "b=0");
        write(y, 1, "b=0");
        for (int i = 0; i < 11; i++) {
            y.leave(0, 5, 1, 0, 1, 60, 0, 99);
        }
        due("behind twelve others", y.letter(0, 1, 9, 0), 9);
        due("bargain 0 is by others", y.letter(0, 2, 1, 0), BAD);
        for (int i = 4; i < 10; i++) {
            y.bargain(2, 0, 3, 0, 10 * i + 1, 10);
        }
        due("the last of ten", y.letter(0, 2, 1023 - 15, 1), 100);
    }

    private static void sheet() {
        WhoseName x = new WhoseName();
        due("none", x.sheet(0, 0, 0), 0);
        due("sixty", x.sheet(3, 1, 60), 60);
        due("its last", x.get(3, 1, 59), 0);
        x.lay(3, 1, 59, 7);
        x.lay(3, 1, 0, 7);
        due("anew", x.sheet(3, 1, 60), 60);
        due("its last anew", x.get(3, 1, 59), 0);
        due("its first anew", x.get(3, 1, 0), 0);
        due("of another TYPE", x.sheet(3, 2, 5), 5);
        due("its TYPE", x.get(3, 1, 0), LEAST);
        due("its fifth", x.get(3, 2, 4), 0);
        due("sheet 4", x.sheet(4, 0, 1), BAD);
        due("sheet -1", x.sheet(-1, 0, -1), BAD);
        due("type 3", x.sheet(0, 3, 1), BAD);
        due("type -1", x.sheet(0, -1, -1), BAD);
        due("61", x.sheet(0, 0, 61), BAD);
        due("count(8)", x.count(8), 3);
        due("-1", x.sheet(3, 0, -1), SIZE);
        due("count(8)", x.count(8), 5);
        due("least", x.sheet(2, 0, LEAST), SIZE);
        due("it stands", x.lose(3), 5);
        due("it is LOST still", x.lose(2), NULL);
    }

    private static void lose() {
        WhoseName x = new WhoseName();
        due("sheet 4", x.lose(4), BAD);
        due("sheet -1", x.lose(-1), BAD);
        due("count(8)", x.count(8), 0);
        x.sheet(1, 0, 7);
        x.sheet(2, 0, 0);
        due("of seven", x.lose(1), 7);
        due("of none", x.lose(2), 0);
        due("again", x.lose(1), NULL);
        due("count(8)", x.count(8), 1);
        due("get", x.get(1, 0, 0), LEAST);
    }

    private static void lay() {
        WhoseName x = new WhoseName();
        due("LOST", x.lay(0, 0, 0, 1), NULL);
        x.sheet(0, 0, 3);
        x.sheet(1, 1, 3);
        x.sheet(2, 2, 3);
        due("a byte", x.lay(0, 0, 2, 0x12384), 1);
        due("a short", x.lay(1, 1, 0, 0x18765), 1);
        due("an int", x.lay(2, 2, 1, LEAST + 1), 1);
        due("its lowest bits", x.get(0, 0, 2), (byte) 0x84);
        due("its lowest bits", x.get(1, 1, 0), (short) 0x8765);
        due("all its bits", x.get(2, 2, 1), LEAST + 1);
        due("beside it", x.get(2, 2, 0), 0);
        due("CAST", x.lay(0, 1, 0, 1), CAST);
        due("CAST ahead of INDEX", x.lay(0, 2, 9, 1), CAST);
        due("INDEX 3", x.lay(0, 0, 3, 1), INDEX);
        due("count(8)", x.count(8), 2);
        due("INDEX -1", x.lay(0, 0, -1, 1), INDEX);
        due("sheet 4", x.lay(4, 0, 0, 1), BAD);
        due("sheet -1", x.lay(-1, 0, 0, 1), BAD);
        due("type 3", x.lay(0, 3, 0, 1), BAD);
        due("type -1, LOST", x.lay(3, -1, 0, 1), BAD);
        due("NULL ahead of INDEX", x.lay(3, 0, 70, 1), NULL);
    }

    private static void get() {
        WhoseName x = new WhoseName();
        due("sheet 4", x.get(4, 0, 0), LEAST);
        due("type 3", x.get(0, 3, 0), LEAST);
        due("no FINDING", x.count(8), 0);
        due("LOST", x.get(0, 0, 0), LEAST);
        due("NULL", x.count(8), 1);
        fill(x, 0, 1, 5, -6);
        due("get(0, 1, 1)", x.get(0, 1, 1), -6);
        due("get(0, 1, 0)", x.get(0, 1, 0), 5);
        due("another TYPE", x.get(0, 2, 5), LEAST);
        due("CAST", x.count(8), 3);
        due("no item 2", x.get(0, 1, 2), LEAST);
        due("INDEX", x.count(8), 2);
        x.sheet(1, 0, -1);
        due("no item -1", x.get(0, 1, -1), LEAST);
        due("INDEX", x.count(8), 2);
        due("sheet -1", x.get(-1, 0, 0), LEAST);
        due("type -1", x.get(0, -1, 0), LEAST);
        due("it stands", x.count(8), 2);
    }

    private static void copy() {
        WhoseName x = new WhoseName();
        fill(x, 0, 2, 1, 2, 3, 4, 5);
        x.sheet(1, 2, 4);
        x.sheet(2, 0, 5);
        due("to another", x.copy(0, 1, 1, 2, 2), 1);
        int[] want = {0, 0, 2, 3};
        for (int i = 0; i < 4; i++) {
            due("item " + i, x.get(1, 2, i), want[i]);
        }
        due("onto itself behind", x.copy(0, 0, 0, 1, 4), 1);
        int[] behind = {1, 1, 2, 3, 4};
        for (int i = 0; i < 5; i++) {
            due("item " + i, x.get(0, 2, i), behind[i]);
        }
        due("onto itself ahead", x.copy(0, 2, 0, 0, 3), 1);
        int[] ahead = {2, 3, 4, 3, 4};
        for (int i = 0; i < 5; i++) {
            due("item " + i, x.get(0, 2, i), ahead[i]);
        }
        due("none at the end", x.copy(0, 5, 1, 4, 0), 1);
        due("sheet 4", x.copy(4, 0, 0, 0, 1), BAD);
        due("to sheet -1", x.copy(0, 0, -1, 0, 1), BAD);
        due("from LOST", x.copy(3, 0, 0, 0, 1), NULL);
        due("to LOST", x.copy(0, 0, 3, 0, 1), NULL);
        due("to LOST of another, badly", x.copy(2, -1, 3, 0, 1), NULL);
        due("unlike TYPES", x.copy(0, 0, 2, 0, 1), STORE);
        due("STORE ahead of INDEX", x.copy(0, -1, 2, 0, 1), STORE);
        due("count(8)", x.count(8), 4);
        int[][] bad = {
            {-1, 0, 1}, {0, -1, 1}, {0, 0, -1}, {5, 0, 1}, {0, 4, 1}, {3, 0, 3}, {0, 2, 3}, {6, 0, 0}, {0, 5, 0},
            {Integer.MAX_VALUE, 0, 1}, {0, Integer.MAX_VALUE, 1}, {0, 0, Integer.MAX_VALUE}, {1, 1, Integer.MAX_VALUE},
            {LEAST, 0, 1}, {0, 0, LEAST}, {0, LEAST, 1}, {LEAST, 0, LEAST},
        };
        for (int[] b : bad) {
            due("copy(0, " + b[0] + ", 1, " + b[1] + ", " + b[2] + ")", x.copy(0, b[0], 1, b[1], b[2]), INDEX);
        }
        for (int i = 0; i < 4; i++) {
            due("it stands " + i, x.get(1, 2, i), want[i]);
        }
    }

    private static void writeEnd() {
        WhoseName x = new WhoseName();
        x.bargain(1, 1, 3, 0, 300, 10);
        x.bargain(2, 0, 3, 0, 100, 10);
        write(x, 1, "o=0");
        x.sheet(0, 2, 9);
        x.lay(0, 2, 8, 77);
        due("nine items", x.write(0, 0), 8);
        int[] want = {1000, 700, 900, 1400, 1000, 1000, 1000, 1000, 77};
        for (int i = 0; i < 9; i++) {
            due("item " + i, x.get(0, 2, i), want[i]);
        }
        due("by LAW 1", x.write(1, 0), 8);
        due("by LAW 1", x.get(0, 2, 2), 1000);
        x.sheet(1, 0, 4);
        due("four bytes", x.write(0, 1), 4);
        for (int i = 0; i < 4; i++) {
            due("byte " + i, x.get(1, 0, i), (byte) want[i]);
        }
        x.purse(1, 9999);
        x.sheet(2, 1, 2);
        due("two shorts", x.write(0, 2), 2);
        due("short 1", x.get(2, 1, 1), 9699);
        x.sheet(2, 1, 0);
        due("no items", x.write(0, 2), 0);
        due("LOST", x.write(0, 3), NULL);
        due("law 2", x.write(2, 3), BAD);
        due("law -1", x.write(-1, 0), BAD);
        due("sheet 4", x.write(0, 4), BAD);
        due("sheet -1", x.write(0, -1), BAD);
    }

    private static void count() {
        WhoseName x = new WhoseName();
        x.leave(0, 0, 1, 1, 15, 50, 0, 99);
        x.back(0, 1, 1, -1);
        x.back(0, 1, 1, -1);
        x.back(0, 1, 1, 5);
        x.bargain(1, 0, 3, 0, 1, 1);
        x.bargain(1, 0, 3, 0, 1, 1);
        x.bargain(1, 0, 3, 0, 1, 1);
        x.bargain(1, 0, 3, 0, 1, 1);
        for (int i = 0; i < 5; i++) {
            x.after(0, 0, 1, 1, 1);
        }
        write(x, 0, "b=1;s=");
        write(x, 1, "b=1;s=1");
        x.purse(4, 9999);
        x.lose(0);
        int[] want = {1, 3, 2, 4, 5, 6, 7, 16999, 1};
        for (int i = 0; i < want.length; i++) {
            due("count(" + i + ")", x.count(i), want[i]);
        }
        due("count(9)", x.count(9), BAD);
        due("count(-1)", x.count(-1), BAD);
        x.lose(4);
        due("BAD is no FINDING", x.count(8), 1);
        x.sheet(0, 0, 1);
        due("nor is what is well", x.count(8), 1);
    }

    private static void digest() {
        WhoseName x = new WhoseName();
        due("of a new one", x.digest(), digestByCalls(x));
        x.leave(0, 0, 1, 1, 15, 100, 0, 99);
        x.leave(2, 5, 1, 3, 15, 100, 0, 99);
        x.back(0, 60, 1, -1);
        x.bargain(1, 0, 3, 0, 110, 50);
        x.bargain(1, 5, 3, 0, 90, 50);
        x.bargain(1, NONE, 3, 0, 90, 50);
        x.bargain(2, 2, 3, 0, 90, 50);
        x.after(0, 0, 50, 1, 5);
        x.purse(2, 30);
        write(x, 0, "t=10;n=2;o=0");
        write(x, 1, "t=5;n=1;w=0;s=0;b=");
        due("of a full one", x.digest(), digestByCalls(x));
        write(x, 1, "t=5;n=1;w=0;s=0;b=0");
        long before = x.digest();
        due("of a fuller one", before, digestByCalls(x));
        x.lose(0);
        due("FINDINGS change it not", x.digest(), before);
    }

    /** With a BACK that is OPEN each call answers as if it were never heard. */
    private static void openIsNever() {
        long[] never = answersWith(100);
        long[] open = answersWith(-1);
        long[] heard = answersWith(10);
        boolean heardMatters = true;
        for (int i = 0; i < never.length; i++) {
            promise = (int) (never[i] >> 32 & 63);
            due("with an OPEN hearing", open[i], never[i]);
            heardMatters &= heard[i] != never[i];
        }
        due("with a hearing they answer otherwise", heardMatters ? 1 : 0, 1);
    }

    private static long[] answersWith(int hearing) {
        WhoseName x = new WhoseName();
        x.leave(0, 0, 1, 1, 15, 50, 0, 99);
        x.back(0, 10, 1, hearing);
        x.bargain(1, 0, 3, 0, 55, 50);
        write(x, 0, "t=10");
        write(x, 1, "t=10;b=2");
        int[] promises = {15, 15, 16, 16, 18, 19, 20, 24, 25};
        int[] answers = {
            x.reaches(0, 0, 0, 0), x.reaches(0, 0, 0, 1), x.bound(0, 0, 0), x.bound(0, 0, 1), x.ask(0, 0, 0),
            x.owes(0, 0), x.end(0, 0, 0), x.turned(0), x.letter(0, 1, 1, 1),
        };
        long[] all = new long[answers.length];
        for (int i = 0; i < all.length; i++) {
            all[i] = (long) promises[i] << 32 | answers[i] & 0xffffffffL;
        }
        due("digest() by calls", x.digest(), digestByCalls(x));
        return all;
    }

    private static long digestByCalls(WhoseName x) {
        long h = 17;
        for (int i = 0; i < 8; i++) {
            h = 31 * h + x.count(i);
        }
        int bargains = x.count(3);
        for (int l = 0; l < 2; l++) {
            h = 31 * h + x.fault(l);
            for (int i = 0; i < 9; i++) {
                h = 31 * h + x.law(l, i);
            }
            for (int b = 0; b < bargains; b++) {
                h = 31 * h + x.bound(l, b, 0);
                h = 31 * h + x.bound(l, b, 1);
                h = 31 * h + x.owes(l, b);
            }
        }
        for (int p = 0; p < 8; p++) {
            h = 31 * h + x.end(0, 0, p);
        }
        for (int b = 0; b < bargains; b++) {
            h = 31 * h + x.end(0, 1, b);
            h = 31 * h + x.turned(b);
        }
        return h;
    }
}
