/** The edges that "Terms" names, and the promises on what is told: 1 to 14. */
public final class EdgeTermsTest {
    private static final int NONE = Story.NONE, BAD = Story.BAD, NOT = Story.NOT, FULL = Story.FULL, NULL = Story.NULL;
    private static final int LEAST = Story.LEAST, MOST = Story.MOST;

    public static void main(String[] args) {
        manyCalls();
        persons();
        days();
        sortsOfThings();
        purses();
        twelveLeaves();
        forms();
        scopes();
        passingOn();
        thirds();
        roots();
        givers();
        toWhoGaveIt();
        twelveBacks();
        hearings();
        heardLater();
        tenBargains();
        namedAndOther();
        worths();
        twelveAfters();
        saidAfterwards();
        twoLaws();
        sixtyBytes();
        lettersAndNumbers();
        figures();
        lastPartIsSo();
        faultPlaces();
        asWithoutAnyPart();
        wiping();
        reading();
        readingUntilFull();
        whatIsAskedOfThings();
        aNewObject();
        Story.conclude();
    }

    private static void manyCalls() {
        Story.sentence("An object is used for at most 512 calls after it has been made; what later calls answer is free.");
        WhoseName x = new WhoseName();
        for (int call = 1; call <= 512; call++) {
            Story.check("call " + call, x.purse(call % 8, call), call <= 8 ? 1000 : call - 8);
        }
        for (int call = 513; call <= 2000; call++) {
            x.purse(call % 8, call);
        }
        WhoseName full = new WhoseName();
        int calls = fill(full);
        long first = full.digest();
        for (calls++; calls < 512; calls++) {
            Story.check("digest, call " + (calls + 1), full.digest(), first);
        }
        for (int i = 0; i < 3; i++) {
            full.digest();
        }
        WhoseName bytes = new WhoseName();
        for (int call = 1; call <= 512; call++) {
            int place = (call - 1) % 61;
            Story.check("call " + call, place == 60 ? bytes.wipe(0) : bytes.type(0, 'b'), place == 60 ? 60 : place + 1);
        }
    }

    /** As much as there may be of all that can be told: how many calls. */
    private static int fill(WhoseName x) {
        for (int i = 0; i < 12; i++) {
            x.leave(i == 0 ? 0 : 3, Math.max(0, i - 1), 1 + i % 7, 1, 15, 999, 0, 99);
            x.back(i, 50, 1 + i % 7, i % 2 == 0 ? -1 : 60);
        }
        for (int i = 0; i < 10; i++) {
            x.bargain(1 + i % 5, i % 4 == 0 ? NONE : 0, 7, i % 4, 100 * i, 45 + i);
        }
        for (int i = 0; i < 12; i++) {
            x.after(i % 10, 0, 60, i % 2, 500);
        }
        String text = "b=2;s=0;p=20;t=5;a=20;w=0;n=2;o=2;c=9;b=0;c=9;t=9;t=9;t=9;n=1";
        for (int i = 0; i < 60; i++) {
            x.type(1, text.charAt(i));
        }
        return 12 + 12 + 10 + 12 + 60;
    }

    private static void persons() {
        Story.sentence("PERSONS are 0 to 7");
        Story s = Story.world();
        new Story().within(1000, 0, 0, 7, "purse", 0, 10);
        s.beyond(0, 0, 7, "purse", 0, 10);
        for (int form = 0; form < 3; form++) {
            int more = form == 2 ? 4 : 0;
            for (int from : new int[] {0, 1, 6, 7}) {
                s.again().does(4, "leave", form, from, 3, more, 1, 1, 0, 0).asks(from, "leaveIs", 4, 1);
                s.again().does(4, "leave", form, 3, from, more, 1, 1, 0, 0).asks(from, "leaveIs", 4, 2);
            }
            s.beyond(1, 0, 7, "leave", form, 0, 3, more, 1, 1, 0, 0).beyond(2, 0, 7, "leave", form, 3, 0, more, 1, 1, 0, 0);
        }
        s.within(4, 3, 0, 7, "leave", 2, 3, 4, 0, 1, 1, 0, 0);
        s.beyond(2, 0, 7, "leave", 3, 0, 0, 0, 1, 1, 0, 0).within(4, 2, 2, 7, "leave", 3, 0, 2, 0, 1, 1, 0, 0);
        s.within(3, 2, 0, 7, "back", 0, 5, 0, 5);
        s.within(6, 0, 0, 7, "bargain", 0, NONE, 3, 0, 1, 1);
        s.within(6, 2, 0, 7, "bargain", 3, NONE, 0, 0, 1, 1);
        s.again().does(6, "bargain", 3, 0, 4, 0, 1, 1).asks(0, "bargainIs", 6, 1);
        s.again().does(6, "bargain", 3, 7, 4, 0, 1, 1).asks(7, "bargainIs", 6, 1);
        s.again().does(6, "bargain", 3, 6, 4, 0, 1, 1).asks(6, "bargainIs", 6, 1);
        s.refuses(BAD, "bargain", 3, 8, 4, 0, 1, 1).refuses(BAD, "bargain", 3, MOST, 4, 0, 1, 1);
        s.within(2, 1, 0, 7, "after", 0, 0, 50, 1, 1);
        s.asksWithin(2, 0, 7, "ask", 0, 0, 0).asksWithin(2, 0, 7, "sure", 0, 0, 0).asksWithin(2, 0, 7, "end", 0, 0, 0);
        s.asksWithin(0, 0, 7, "letter", 0, 3, 0, 1).asksWithin(1, 0, 7, "letter", 3, 0, 0, 1);
    }

    private static void days() {
        Story.sentence("DAYS 0 to 99");
        Story s = Story.world();
        s.within(4, 6, 0, 99, "leave", 0, 0, 1, 0, 1, 1, 0, 99);
        s.within(4, 7, 0, 99, "leave", 0, 0, 1, 0, 1, 1, 0, 0);
        s.beyond(6, 0, 99, "leave", 3, 0, 2, 0, 1, 1, 0, 99).beyond(7, 0, 99, "leave", 3, 0, 2, 0, 1, 1, 0, 99);
        s.refuses(BAD, "leave", 0, 0, 1, 0, 1, 1, 100, 100).refuses(BAD, "leave", 0, 0, 1, 0, 1, 1, -1, -1);
        s.within(3, 1, 0, 99, "back", 0, 0, 1, 100).beyond(1, 0, 99, "back", 0, 0, 1, -1);
        s.within(6, 5, 0, 99, "bargain", 1, 0, 3, 0, 1, 0);
        s.within(2, 2, 0, 99, "after", 4, 2, 0, 1, 1);
        s.again().does(6, "bargain", 1, 0, 3, 0, 1, 99).does(2, "after", 6, 0, 99, 1, 1)
                .refuses(BAD, "after", 6, 0, 98, 1, 1).refuses(BAD, "after", 6, 0, 100, 1, 1);
    }

    private static void sortsOfThings() {
        Story.sentence("THINGS of 4 SORTS (0 to 3).");
        Story s = Story.world();
        s.within(6, 3, 0, 3, "bargain", 1, 0, 3, 0, 1, 0);
        for (int sort = 0; sort < 4; sort++) {
            s.again().does(6, "bargain", 1, 0, 3, sort, 1, 0).asks(sort, "bargainIs", 6, 3);
        }
    }

    private static void purses() {
        Story.sentence("A PERSON has a PURSE (0 to 9999; 1000 at first).");
        for (int p = 0; p < 8; p++) {
            new Story().does(1000, "purse", p, 1).does(1, "purse", p, 0).does(0, "purse", p, 9998)
                    .does(9998, "purse", p, 9999).does(9999, "purse", p, 1000).asks(8000, "count", 7);
        }
        Story.sentence("The PURSE of a PERSON: what it was. BAD.");
        Story s = Story.world();
        s.within(1000, 1, 0, 9999, "purse", 3, 0);
        s.does(1000, "purse", 3, 1000).does(1000, "purse", 3, 77).refuses(BAD, "purse", 3, 10000).does(77, "purse", 3, 5);
        Story all = new Story();
        for (int p = 0; p < 8; p++) {
            all.does(1000, "purse", p, 9999);
        }
        all.asks(79992, "count", 7);
        for (int p = 0; p < 8; p++) {
            all.does(9999, "purse", p, 0);
        }
        all.asks(0, "count", 7);
    }

    private static Story manyLeaves(int n) {
        Story s = new Story();
        for (int i = 0; i < n; i++) {
            s.does(i, "leave", 0, 0, 1, 1, 1, i, 0, 99);
        }
        return s;
    }

    private static void twelveLeaves() {
        Story.sentence("LEAVES, 12 at most");
        manyLeaves(10).does(10, "leave", 0, 0, 1, 0, 1, 1, 0, 0).asks(11, "count", 0);
        Story s = manyLeaves(11).refuses(BAD, "leaveIs", 11, 0).does(11, "leave", 0, 0, 1, 0, 1, 1, 0, 0).asks(12, "count", 0);
        s.refuses(FULL, "leave", 0, 7, 2, 1, 15, 999, 99, 99).refuses(FULL, "leave", 1, 7, 2, 0, 15, 999, 99, 99);
        s.refuses(FULL, "leave", 2, 7, 2, 4, 15, 999, 99, 99).refuses(FULL, "leave", 3, 1, 2, 1, 15, 999, 99, 99);
        s.asks(12, "count", 0).asks(1, "leaveIs", 11, 5).refuses(BAD, "leaveIs", 12, 0);
        Story.sentence("BAD: also to who gave it; FULL.");
        s.refuses(BAD, "leave", 0, 1, 1, 0, 1, 1, 0, 0).refuses(BAD, "leave", 3, 0, 1, 0, 1, 1, 0, 0);
        s.refuses(BAD, "leave", 0, 0, 1, 0, 16, 1, 0, 0).refuses(BAD, "leave", 3, 12, 2, 0, 1, 1, 0, 0);
        s.refuses(BAD, "leave", 0, 0, 1, 0, 1, 1, 1, 0).refuses(BAD, "leave", 4, 0, 1, 0, 1, 1, 0, 0);
    }

    private static void forms() {
        Story.sentence("of a FORM: 0 WORD, 1 POST, 2 SEEM, 3 PASSED");
        Story s = Story.world();
        s.again().does(4, "leave", 0, 0, 5, 1, 1, 1, 0, 0).asks(0, "leaveIs", 4, 0).asks(NONE, "leaveIs", 4, 8);
        s.again().does(4, "leave", 1, 0, 5, 0, 1, 1, 0, 0).asks(1, "leaveIs", 4, 0).asks(NONE, "leaveIs", 4, 8);
        s.again().does(4, "leave", 2, 0, 5, 1, 1, 1, 0, 0).asks(2, "leaveIs", 4, 0).asks(NONE, "leaveIs", 4, 8);
        s.again().does(4, "leave", 3, 0, 5, 1, 1, 1, 0, 0).asks(3, "leaveIs", 4, 0).asks(0, "leaveIs", 4, 8);
        s.beyond(0, 0, 3, "leave", 0, 0, 5, 0, 1, 1, 0, 0).beyond(0, 0, 3, "leave", 0, 0, 5, 1, 1, 1, 0, 0);
    }

    private static void scopes() {
        Story s = Story.world();
        int[][] forms = {{0, 0, 5, 0}, {1, 0, 5, 0}, {2, 0, 5, 1}, {3, 0, 5, 0}};
        for (int[] f : forms) {
            Story.sentence("for SORTS (bits, 1 to 15)");
            s.within(4, 4, 1, 15, "leave", f[0], f[1], f[2], f[3], 0, 1, 0, 0);
            Story.sentence("up to a LIMIT (0 to 999)");
            s.within(4, 5, 0, 999, "leave", f[0], f[1], f[2], f[3], 1, 0, 0, 0);
            Story.sentence("from a DAY to a DAY (not less)");
            s.again().does(4, "leave", f[0], f[1], f[2], f[3], 1, 1, 50, 51).asks(50, "leaveIs", 4, 6).asks(51, "leaveIs", 4, 7);
            s.again().does(4, "leave", f[0], f[1], f[2], f[3], 1, 1, 50, 50).asks(50, "leaveIs", 4, 6).asks(50, "leaveIs", 4, 7);
            s.refuses(BAD, "leave", f[0], f[1], f[2], f[3], 1, 1, 50, 49).refuses(BAD, "leave", f[0], f[1], f[2], f[3], 1, 1, 99, 98);
        }
        for (int sorts = 1; sorts <= 15; sorts++) {
            s.again().does(4, "leave", 0, 0, 5, 0, sorts, 999, 0, 99).asks(sorts, "leaveIs", 4, 4).asks(999, "leaveIs", 4, 5);
        }
    }

    private static void passingOn() {
        Story.sentence("A WORD, and a PASSED one, may be passed on, or not.");
        Story s = Story.world();
        s.within(4, 3, 0, 1, "leave", 0, 0, 5, 0, 1, 1, 0, 0).within(4, 3, 0, 1, "leave", 3, 0, 5, 0, 1, 1, 0, 0);
        s.again().does(4, "leave", 0, 0, 5, 1, 1, 1, 0, 0).asks(1, "leaveIs", 4, 3).does(5, "leave", 3, 4, 6, 0, 1, 1, 0, 0)
                .asks(0, "leaveIs", 5, 3).refuses(BAD, "leave", 3, 5, 7, 0, 1, 1, 0, 0);
        s.again().does(4, "leave", 0, 0, 5, 0, 1, 1, 0, 0).asks(0, "leaveIs", 4, 3).refuses(BAD, "leave", 3, 4, 6, 0, 1, 1, 0, 0);
        s.again().does(4, "leave", 3, 0, 5, 1, 1, 1, 0, 0).does(5, "leave", 3, 4, 6, 1, 1, 1, 0, 0).asks(2, "leaveIs", 5, 9);
        Story.sentence("more: whether it may be passed on (0, 1), of a SEEM its THIRD, of a POST 0: its number.");
        s.within(4, 3, 0, 0, "leave", 1, 0, 5, 0, 1, 1, 0, 0);
        s.refuses(BAD, "leave", 3, 1, 5, 0, 1, 1, 0, 0);
        s.refuses(BAD, "leave", 3, 2, 6, 0, 1, 1, 0, 0);
        s.again().does(4, "leave", 2, 0, 5, 1, 1, 1, 0, 0).refuses(BAD, "leave", 3, 4, 6, 0, 1, 1, 0, 0).asks(1, "leaveIs", 4, 3);
    }

    private static void thirds() {
        Story.sentence("A SEEM is what a PERSON (its THIRD, neither of both) was let believe");
        Story s = Story.world();
        for (int third = 0; third < 8; third++) {
            if (third == 2 || third == 3) {
                s.refuses(BAD, "leave", 2, 2, 3, third, 1, 1, 0, 0);
            } else {
                s.again().does(4, "leave", 2, 2, 3, third, 1, 1, 0, 0).asks(third, "leaveIs", 4, 3);
            }
        }
        s.refuses(BAD, "leave", 2, 0, 7, 0, 1, 1, 0, 0).refuses(BAD, "leave", 2, 0, 7, 7, 1, 1, 0, 0);
    }

    private static void roots() {
        Story.sentence("a PASSED one is from the HOLDER of a LEAVE (its ROOT, told ahead, that may be passed on) to somebody.");
        new Story().refuses(BAD, "leave", 3, 0, 1, 0, 1, 1, 0, 0).refuses(BAD, "leave", 3, -1, 1, 0, 1, 1, 0, 0);
        Story s = Story.world();
        s.again().does(4, "leave", 3, 0, 6, 0, 1, 1, 0, 0).asks(0, "leaveIs", 4, 8);
        s.again().does(4, "leave", 3, 3, 6, 0, 1, 1, 0, 0).asks(3, "leaveIs", 4, 8);
        s.refuses(BAD, "leave", 3, 4, 6, 0, 1, 1, 0, 0).refuses(BAD, "leave", 3, -1, 6, 0, 1, 1, 0, 0);
        s.refuses(BAD, "leave", 3, LEAST, 6, 0, 1, 1, 0, 0).refuses(BAD, "leave", 3, MOST, 6, 0, 1, 1, 0, 0);
        Story many = manyLeaves(11);
        many.refuses(BAD, "leave", 3, 11, 6, 0, 1, 1, 0, 0).does(11, "leave", 3, 10, 6, 0, 1, 1, 0, 0).asks(10, "leaveIs", 11, 8);
    }

    private static void givers() {
        Story.sentence("Its GIVER is who gave a WORD, a POST, a SEEM; of a PASSED one the GIVER of its ROOT.");
        Story s = new Story().does(0, "leave", 0, 7, 1, 1, 1, 1, 0, 0);
        for (int i = 1; i < 12; i++) {
            s.does(i, "leave", 3, i - 1, 1 + i % 6, 1, 1, 1, 0, 0);
        }
        for (int i = 0; i < 12; i++) {
            s.asks(7, "leaveIs", i, 1).asks(1 + i % 6, "leaveIs", i, 2).asks(i - 1, "leaveIs", i, 8).asks(i, "leaveIs", i, 9);
        }
        Story t = Story.world();
        t.asks(0, "leaveIs", 0, 1).asks(2, "leaveIs", 1, 1).asks(5, "leaveIs", 2, 1).asks(0, "leaveIs", 3, 1);
    }

    private static void toWhoGaveIt() {
        Story.sentence("BAD: also to who gave it; FULL.");
        Story s = Story.world();
        for (int form = 0; form < 3; form++) {
            for (int p = 0; p < 8; p += 7) {
                s.refuses(BAD, "leave", form, p, p, form == 2 ? 4 : 0, 1, 1, 0, 0);
            }
        }
        s.refuses(BAD, "leave", 3, 0, 1, 0, 1, 1, 0, 0).refuses(BAD, "leave", 3, 3, 4, 0, 1, 1, 0, 0);
        s.again().does(4, "leave", 3, 3, 1, 0, 1, 1, 0, 0).asks(0, "leaveIs", 4, 1).asks(1, "leaveIs", 4, 2);
        s.again().does(4, "leave", 3, 0, 0, 0, 1, 1, 0, 0).asks(0, "leaveIs", 4, 1).asks(0, "leaveIs", 4, 2);
    }

    private static Story manyBacks(int n) {
        Story s = new Story().does(0, "leave", 0, 0, 1, 1, 15, 100, 0, 99).does(0, "bargain", 1, 0, 3, 0, 100, 50);
        for (int i = 0; i < n; i++) {
            s.does(i, "back", 0, 51 + i, 1, i % 2 == 0 ? -1 : 80);
        }
        return s;
    }

    private static void twelveBacks() {
        Story.sentence("BACKS, 12 at most");
        manyBacks(10).does(10, "back", 0, 5, 1, 5).asks(11, "count", 1).asks(NONE, "bound", 0, 0, 1);
        Story s = manyBacks(11).does(11, "back", 0, 5, 2, -1).asks(12, "count", 1).asks(7, "count", 2);
        s.refuses(FULL, "back", 0, 5, 1, 5).refuses(FULL, "back", 0, 0, 0, 100).refuses(FULL, "back", 0, 5, 1, -1);
        s.asks(0, "bound", 0, 0, 1).asks(12, "count", 1).refuses(BAD, "heard", 12, 50).does(1, "heard", 11, 5);
        Story.sentence("A BACK more: its number. BAD; FULL.");
        s.refuses(BAD, "back", 1, 5, 1, 5).refuses(BAD, "back", 0, 5, 8, 5).refuses(BAD, "back", 0, 5, 1, 4).refuses(BAD, "back", 0, 100, 1, 100);
        new Story().refuses(BAD, "back", 0, 5, 1, 5).refuses(BAD, "back", -1, 5, 1, 5);
        Story.world().within(3, 0, 0, 3, "back", 0, 5, 1, 5);
    }

    private static void hearings() {
        Story.sentence("SENT on a DAY, HEARD by a PERSON on a DAY (not less; 100: never; it may be OPEN, told as -1).");
        Story s = Story.world();
        for (int sent : new int[] {0, 1, 50, 98, 99}) {
            s.again().does(3, "back", 0, sent, 1, sent).asks(1, "count", 2).refuses(NOT, "heard", 3, 100);
            s.again().does(3, "back", 0, sent, 1, sent + 1).asks(1, "count", 2);
            s.again().does(3, "back", 0, sent, 1, 99).asks(1, "count", 2);
            s.again().does(3, "back", 0, sent, 1, 100).asks(1, "count", 2).refuses(NOT, "heard", 3, 100);
            s.again().does(3, "back", 0, sent, 1, -1).asks(2, "count", 2).does(1, "heard", 3, sent);
            s.refuses(BAD, "back", 0, sent, 1, 101).refuses(BAD, "back", 0, sent, 1, -2);
            if (sent > 0) {
                s.refuses(BAD, "back", 0, sent, 1, sent - 1);
            }
        }
        s.refuses(BAD, "back", 0, 5, 1, LEAST).refuses(BAD, "back", 0, 5, 1, MOST).refuses(BAD, "back", 0, 1, 1, 0);
    }

    private static void heardLater() {
        Story.sentence("An OPEN hearing was on a DAY (not ahead of SENT; 100: never): 1.");
        Story s = Story.world();
        for (int day : new int[] {40, 41, 99, 100}) {
            s.again().does(1, "heard", 0, day).asks(0, "count", 2).refuses(NOT, "heard", 0, day);
        }
        s.refuses(BAD, "heard", 0, 39).refuses(BAD, "heard", 0, 101).refuses(BAD, "heard", 0, -1);
        s.refuses(BAD, "heard", 0, LEAST).refuses(BAD, "heard", 0, MOST);
        s.again().does(1, "heard", 0, 50).asks(0, "reaches", 0, 0, 1, 1).asks(1, "reaches", 0, 0, 0, 1);
        s.again().does(1, "heard", 0, 51).asks(0, "reaches", 0, 0, 0, 1).asks(1, "reaches", 0, 0, 3, 1);
        s.again().does(1, "heard", 0, 100).asks(0, "reaches", 0, 0, 0, 1);
        Story edge = s.again().does(3, "back", 0, 0, 1, -1).does(4, "back", 0, 99, 1, -1);
        edge.again().does(1, "heard", 3, 0);
        edge.refuses(BAD, "heard", 3, -1).refuses(BAD, "heard", 4, 98);
        edge.again().does(1, "heard", 4, 99);
        edge.again().does(1, "heard", 4, 100);
        Story.sentence("BAD; NOT: it is not OPEN.");
        s.refuses(NOT, "heard", 1, 60).refuses(NOT, "heard", 1, 10).refuses(NOT, "heard", 2, 100).refuses(NOT, "heard", 2, 20);
        s.refuses(BAD, "heard", 1, 9).refuses(BAD, "heard", 2, 19).refuses(BAD, "heard", 1, 101);
        s.refuses(BAD, "heard", 3, 60).refuses(BAD, "heard", -1, 60).refuses(BAD, "heard", LEAST, 60).refuses(BAD, "heard", MOST, 60);
        new Story().refuses(BAD, "heard", 0, 60);
    }

    private static Story manyBargains(int n) {
        Story s = new Story();
        for (int i = 0; i < n; i++) {
            s.does(i, "bargain", 1, 0, 3, 0, i, i);
        }
        return s;
    }

    private static void tenBargains() {
        Story.sentence("BARGAINS, 10 at most");
        manyBargains(8).does(8, "bargain", 1, 1, 3, 0, 1, 1).asks(9, "count", 3);
        Story s = manyBargains(9).refuses(BAD, "bargainIs", 9, 0).does(9, "bargain", 1, 1, 3, 0, 7, 1).asks(10, "count", 3);
        s.refuses(FULL, "bargain", 1, 0, 3, 0, 1, 1).refuses(FULL, "bargain", 7, NONE, 0, 3, 999, 99).refuses(FULL, "bargain", 2, 2, 3, 0, 1, 1);
        s.asks(7, "bargainIs", 9, 4).asks(10, "count", 3).refuses(BAD, "bargainIs", 10, 0);
        Story.sentence("A BARGAIN more: its number. BAD; FULL.");
        s.refuses(BAD, "bargain", 1, 0, 0, 0, 1, 1).refuses(BAD, "bargain", 1, 0, 3, 4, 1, 1).refuses(BAD, "bargain", 1, 0, 3, 0, 1000, 1);
        s.refuses(BAD, "bargain", 1, -2, 3, 0, 1, 1).refuses(BAD, "bargain", 1, 0, 3, 0, 1, 100);
    }

    private static void namedAndOther() {
        Story.sentence("for a NAMED one (a PERSON; NONE: nobody is named; the DOER itself)");
        Story s = Story.world();
        for (int named = -1; named < 8; named++) {
            if (named != 4) {
                s.again().does(6, "bargain", 3, named, 4, 0, 1, 1).asks(named, "bargainIs", 6, 1);
            }
        }
        s.beyond(1, NONE, 7, "bargain", 3, 0, 4, 0, 1, 1);
        Story.sentence("with another PERSON (the OTHER: neither of both)");
        for (int other = 0; other < 8; other++) {
            if (other == 3 || other == 5) {
                s.refuses(BAD, "bargain", 3, 5, other, 0, 1, 1).refuses(BAD, "bargain", 5, 3, other, 0, 1, 1);
            } else {
                s.again().does(6, "bargain", 3, 5, other, 0, 1, 1).asks(other, "bargainIs", 6, 2);
            }
            if (other == 3) {
                s.refuses(BAD, "bargain", 3, NONE, other, 0, 1, 1).refuses(BAD, "bargain", 3, 3, other, 0, 1, 1);
            } else {
                s.again().does(6, "bargain", 3, NONE, other, 0, 1, 1);
                s.again().does(6, "bargain", 3, 3, other, 0, 1, 1);
            }
        }
        s.refuses(BAD, "bargain", 3, NONE, NONE, 0, 1, 1);
    }

    private static void worths() {
        Story.sentence("of a WORTH (0 to 999), on a DAY.");
        Story s = Story.world();
        s.within(6, 4, 0, 999, "bargain", 1, 0, 3, 0, 0, 0).within(6, 5, 0, 99, "bargain", 1, NONE, 3, 0, 0, 0);
        for (int worth : new int[] {0, 1, 998, 999}) {
            s.again().does(6, "bargain", 1, 0, 3, 0, worth, 99).asks(worth, "bargainIs", 6, 4).asks(99, "bargainIs", 6, 5);
        }
    }

    private static Story manyAfters(int n) {
        Story s = new Story().does(0, "bargain", 1, 0, 3, 0, 50, 50);
        for (int i = 0; i < n; i++) {
            s.does(i, "after", 0, 2, 50 + i, i % 2, i);
        }
        return s;
    }

    private static void twelveAfters() {
        Story.sentence("AFTERS, 12 at most");
        manyAfters(10).does(10, "after", 0, 0, 50, 1, 50).asks(11, "count", 4).asks(20, "bound", 0, 0, 1);
        manyAfters(11).does(11, "after", 0, 0, 50, 1, 50).asks(12, "count", 4).asks(20, "bound", 0, 0, 1);
        Story s = manyAfters(12);
        s.refuses(FULL, "after", 0, 0, 50, 1, 50).refuses(FULL, "after", 0, 0, 50, 0, 0).asks(12, "count", 4).asks(NONE, "bound", 0, 0, 1);
        Story.sentence("An AFTER more: its number. BAD; FULL.");
        s.refuses(BAD, "after", 0, 0, 49, 1, 50).refuses(BAD, "after", 0, 8, 50, 1, 50).refuses(BAD, "after", 0, 0, 50, 2, 50);
        s.refuses(BAD, "after", 1, 0, 50, 1, 50).refuses(BAD, "after", 0, 0, 50, 1, 1000);
        new Story().refuses(BAD, "after", 0, 0, 50, 1, 50).refuses(BAD, "after", -1, 0, 50, 1, 50);
        Story.world().within(2, 0, 0, 5, "after", 0, 0, 99, 1, 50);
    }

    private static void saidAfterwards() {
        Story s = Story.world();
        Story.sentence("of a BARGAIN a PERSON says on a DAY (not less than the BARGAIN's)");
        s.within(2, 2, 50, 99, "after", 0, 0, 0, 1, 50).within(2, 2, 59, 99, "after", 3, 0, 0, 1, 50).within(2, 2, 0, 99, "after", 4, 0, 0, 0, 50);
        Story.sentence("that it is well (1) or not (0), of so much (0 to 999).");
        s.within(2, 3, 0, 1, "after", 0, 0, 50, 0, 50).within(2, 4, 0, 999, "after", 0, 0, 50, 0, 0).within(2, 4, 0, 999, "after", 0, 0, 50, 1, 0);
        Story.sentence("An AFTER more: its number. BAD; FULL.");
        s.again().does(2, "after", 5, 3, 99, 0, 999).does(3, "after", 5, 3, 99, 0, 999).asks(4, "count", 4);
    }

    private static void twoLaws() {
        Story.sentence("LAWS 0, 1 are texts of up to 60 bytes");
        Story s = Story.world();
        s.again().does(9, "type", 0, 'b').asks(9, "count", 5).asks(15, "count", 6);
        s.again().does(16, "type", 1, 'b').asks(8, "count", 5).asks(16, "count", 6);
        s.again().does(8, "wipe", 0).asks(0, "count", 5).asks(15, "count", 6);
        s.again().does(15, "wipe", 1).asks(8, "count", 5).asks(0, "count", 6);
        s.beyond(0, 0, 1, "type", 0, 'b').beyond(0, 0, 1, "wipe", 0).asksWithin(0, 0, 1, "fault", 0).asksWithin(0, 0, 1, "law", 0, 0);
        s.asksWithin(0, 0, 1, "reaches", 0, 0, 0, 0).asksWithin(0, 0, 1, "bound", 0, 0, 0).asksWithin(0, 0, 1, "till", 0, 0);
        s.asksWithin(0, 0, 1, "ask", 0, 0, 0).asksWithin(0, 0, 1, "owes", 0, 0).asksWithin(0, 0, 1, "end", 0, 0, 0);
        s.asksWithin(0, 0, 1, "sure", 0, 0, 0).asksWithin(0, 0, 1, "hangs", 0, 0, 0).asksWithin(0, 0, 1, "wanted", 0, 0);
        s.within(4, 0, 0, 1, "write", 0, 1);
    }

    private static void sixtyBytes() {
        Story.sentence("A byte (0 to 255) comes behind a LAW: how many. BAD; FULL.");
        for (int law = 0; law < 2; law++) {
            Story s = new Story();
            s.within(1, 1, 0, 255, "type", law, 0);
            for (int i = 1; i <= 58; i++) {
                s.does(i, "type", law, i == 57 ? 'c' : "b=2;".charAt((i - 1) % 4));
            }
            s.asks(58, "count", 5 + law).asks(58, "fault", law).asks(1, "law", law, 0);
            s.does(59, "type", law, '0').asks(59, "count", 5 + law).asks(NONE, "fault", law).asks(0, "law", law, 8);
            s.does(60, "type", law, '9').asks(60, "count", 5 + law).asks(0, "count", 6 - law);
            s.asks(NONE, "fault", law).asks(9, "law", law, 8).asks(2, "law", law, 0);
            s.refuses(FULL, "type", law, '9').refuses(FULL, "type", law, 0).refuses(FULL, "type", law, 255);
            s.refuses(BAD, "type", law, 256).refuses(BAD, "type", law, -1).refuses(BAD, "type", 2, '9').asks(60, "count", 5 + law);
            s.does(1, "type", 1 - law, ';').does(60, "wipe", law).does(1, "type", law, ';').asks(1, "count", 5 + law);
        }
        Story whole = new Story().law(0, "b=1;s=1;p=1;t=1;a=1;w=1;n=1;o=1;c=1;b=0;s=0;p=0;t=0;a=0;c=09");
        whole.asks(60, "count", 5).asks(NONE, "fault", 0).asks(9, "law", 0, 8).asks(0, "law", 0, 0).asks(1, "law", 0, 7);
        whole.refuses(FULL, "type", 0, '1').asks(9, "law", 0, 8);
        Story cut = new Story().law(0, "b=1;s=1;p=1;t=1;a=1;w=1;n=1;o=1;c=1;b=0;s=0;p=0;t=00;a=00;c=");
        cut.asks(60, "count", 5).asks(60, "fault", 0).asks(1, "law", 0, 8).asks(10, "law", 0, 2).refuses(FULL, "type", 0, '1').asks(60, "fault", 0);
    }

    private static void lettersAndNumbers() {
        String[] said = {
            "b (0 to 2; 1 without any)", "s (0, 1; 1)", "p (0 to 99; 10)", "t (0 to 99; 0)", "a (0 to 99; 10)",
            "w (0, 1; 1)", "n (0 to 2; 0)", "o (0 to 2; 1)", "c (0 to 9; 1)",
        };
        int[] most = {2, 1, 99, 99, 99, 1, 2, 2, 9};
        int[] first = {1, 1, 10, 0, 10, 1, 0, 1, 1};
        Story s = new Story();
        for (int letter = 0; letter < 9; letter++) {
            Story.sentence(said[letter]);
            String sign = said[letter].substring(0, 1);
            for (int law = 0; law < 2; law++) {
                s.law(law, "").asks(first[letter], "law", law, letter);
                for (int v = 0; v <= most[letter]; v++) {
                    s.law(law, sign + "=" + v).asks(v, "law", law, letter).asks(NONE, "fault", law);
                    for (int beside = 0; beside < 9; beside++) {
                        if (beside != letter) {
                            s.asks(first[beside], "law", law, beside);
                        }
                    }
                    s = new Story();
                }
                for (int v = most[letter] + 1; v < 100; v++) {
                    new Story().law(law, sign + "=" + v).asks(first[letter], "law", law, letter).asks(2, "fault", law);
                }
            }
        }
        Story.sentence("Of a LAW: b (0), s, p, t, a, w, n, o, c (8). BAD.");
        Story.world().asksWithin(1, 0, 8, "law", 0, 0).asksWithin(1, 0, 8, "law", 1, 0);
    }

    private static Story text(String text) {
        return new Story().law(0, text);
    }

    private static void figures() {
        Story.sentence("a letter, = and a number (one or two figures)");
        text("p=5").asks(NONE, "fault", 0).asks(5, "law", 0, 2);
        text("p=05").asks(NONE, "fault", 0).asks(5, "law", 0, 2);
        text("p=50").asks(NONE, "fault", 0).asks(50, "law", 0, 2);
        text("p=00").asks(NONE, "fault", 0).asks(0, "law", 0, 2);
        text("b=02").asks(NONE, "fault", 0).asks(2, "law", 0, 0);
        text("c=09").asks(NONE, "fault", 0).asks(9, "law", 0, 8);
        text("p=").asks(2, "fault", 0).asks(10, "law", 0, 2);
        text("p=005").asks(4, "fault", 0).asks(10, "law", 0, 2);
        text("p=500").asks(4, "fault", 0).asks(10, "law", 0, 2);
        text("p=9;").asks(4, "fault", 0);
        text("p=/").asks(2, "fault", 0);
        text("p=:").asks(2, "fault", 0);
        text("p=1/").asks(3, "fault", 0);
        text("p=1:").asks(3, "fault", 0);
        text("p=0").asks(NONE, "fault", 0);
        text("p=9").asks(NONE, "fault", 0);
    }

    private static void lastPartIsSo() {
        Story.sentence("Of parts of one letter the last is so.");
        text("t=5;t=6").asks(6, "law", 0, 3);
        text("t=6;t=5").asks(5, "law", 0, 3);
        text("t=6;c=3;t=0").asks(0, "law", 0, 3).asks(3, "law", 0, 8);
        text("t=1;t=2;t=3;t=4;t=5;t=6;t=7;t=8;t=9;t=1;t=2;t=3;t=4;t=5;t=77").asks(77, "law", 0, 3).asks(60, "count", 5);
        text("t=5;t=").asks(0, "law", 0, 3);
    }

    private static void faultPlaces() {
        Story.sentence("The FAULT is the place of the first byte with which it cannot go on (an empty text is well)");
        new Story().asks(NONE, "fault", 0).asks(NONE, "fault", 1);
        text("").asks(NONE, "fault", 0);
        for (int b = 0; b < 256; b++) {
            new Story().does(1, "type", 1, b).asks("bsptawnoc".indexOf(b) < 0 ? 0 : 1, "fault", 1);
        }
        Object[][] places = {
            {"b=1;", 4}, {"b=1;;", 4}, {";b=1", 0}, {"b=1;b", 5}, {"b=1;b=", 6}, {"b=1;b=1", NONE}, {"b=1;b=1;", 8},
            {"b==1", 2}, {"bb=1", 1}, {"b=1b=1", 3}, {"b=1 ;b=1", 3}, {"b=1; b=1", 4}, {"B=1", 0}, {"b=-1", 2}, {"b=1;x=1", 4},
            {"b=1;t=10;q", 9}, {"t=10x", 4}, {"t=1x", 3}, {"=1", 0}, {"1", 0}, {"b;s=1", 1}, {"b=;s=1", 2},
        };
        for (Object[] p : places) {
            text((String) p[0]).asks((int) p[1], "fault", 0);
        }
        Story.sentence("or of the first figure of a number that may not be.");
        Object[][] numbers = {
            {"b=2", NONE}, {"b=3", 2}, {"b=10", 2}, {"b=1;s=1", NONE}, {"b=1;s=2", 6}, {"t=10;c=10", 7}, {"t=10;c=9", NONE},
            {"c=9;c=10;c=9", 6}, {"b=3;s=2", 2}, {"b=2;s=2;w=2", 6}, {"b=3x", 2}, {"b=123", 2}, {"b=3;", 2}, {"q=3", 0}, {"t=100", 4},
        };
        for (Object[] n : numbers) {
            text((String) n[0]).asks((int) n[1], "fault", 0);
        }
        Story.sentence("The FAULT of a LAW; NONE. BAD.");
        Story.world().asks(NONE, "fault", 0).asks(NONE, "fault", 1).refuses(BAD, "fault", 2).refuses(BAD, "fault", -1);
    }

    private static void asWithoutAnyPart() {
        Story.sentence("With a FAULT it is as without any part.");
        int[] first = {1, 1, 10, 0, 10, 1, 0, 1, 1};
        int[] told = {2, 0, 9, 8, 7, 0, 2, 0, 6};
        Story s = text("b=2;s=0;p=9;t=8;a=7;w=0;n=2;o=0;c=6");
        for (int i = 0; i < 9; i++) {
            s.asks(told[i], "law", 0, i);
        }
        s.does(36, "type", 0, ';').asks(36, "fault", 0);
        for (int i = 0; i < 9; i++) {
            s.asks(first[i], "law", 0, i);
        }
        s.does(37, "type", 0, 'c').does(38, "type", 0, '=').does(39, "type", 0, '4').asks(4, "law", 0, 8).asks(2, "law", 0, 0);
        s.does(40, "type", 0, '4').asks(38, "fault", 0).asks(1, "law", 0, 8).asks(1, "law", 0, 0);
    }

    private static void wiping() {
        Story.sentence("A LAW is empty: how many bytes it had. BAD.");
        Story s = new Story().does(0, "wipe", 0).does(0, "wipe", 1).does(1, "type", 0, 'b').does(1, "wipe", 0).does(0, "wipe", 0);
        s.law(1, "b=1;s=1;p=1;t=1;a=1;w=1;n=1;o=1;c=1;b=0;s=0;p=0;t=0;a=0;c=09").does(60, "wipe", 1);
        s.asks(NONE, "fault", 1).asks(1, "law", 1, 0).asks(1, "law", 1, 8).asks(0, "count", 6);
        s.refuses(BAD, "wipe", 2).refuses(BAD, "wipe", -1);
        text("p=55").law(0, "p=5").asks(5, "law", 0, 2).asks(NONE, "fault", 0);
        text("b=1;s=0").law(0, "b=1;").asks(4, "fault", 0).law(0, "b").asks(1, "fault", 0).law(0, "b=").asks(2, "fault", 0);
        text("b=x").law(0, "b=1").asks(NONE, "fault", 0).law(0, "").asks(NONE, "fault", 0).asks(0, "count", 5);
    }

    private static void reading() {
        Story.sentence("BARGAINS of a SHEET: its items, six for each (as bargain()), as many as are whole");
        int[] items = new int[60];
        for (int i = 0; i < 10; i++) {
            items[6 * i] = 1;
            items[6 * i + 1] = i % 2 == 0 ? -1 : 0;
            items[6 * i + 2] = 3;
            items[6 * i + 3] = i % 4;
            items[6 * i + 4] = 10 + i;
            items[6 * i + 5] = 90 + i;
        }
        int[] sizes = {0, 1, 5, 6, 7, 11, 12, 13, 53, 54, 55, 59, 60};
        int[] whole = {0, 0, 0, 1, 1, 1, 2, 2, 8, 9, 9, 9, 10};
        for (int type = 0; type < 3; type++) {
            for (int k = 0; k < sizes.length; k++) {
                Story s = new Story().row(2, type, java.util.Arrays.copyOf(items, sizes[k]));
                s.does(whole[k], "read", 2).asks(whole[k], "count", 3);
                for (int b = 0; b < whole[k]; b++) {
                    for (int what = 0; what < 6; what++) {
                        s.asks(items[6 * b + what], "bargainIs", b, what);
                    }
                }
                s.items(2, type, java.util.Arrays.copyOf(items, sizes[k]));
            }
        }
        Story.sentence("as long as each may be: how many. BAD; NULL.");
        int[][] bad = {
            {8, 0, 3, 0, 1, 1}, {-1, 0, 3, 0, 1, 1}, {1, 8, 3, 0, 1, 1}, {1, -2, 3, 0, 1, 1}, {1, 0, 8, 0, 1, 1}, {1, 0, 1, 0, 1, 1},
            {1, 0, 0, 0, 1, 1}, {1, 0, 3, 4, 1, 1}, {1, 0, 3, -1, 1, 1}, {1, 0, 3, 0, 1000, 1}, {1, 0, 3, 0, -1, 1}, {1, 0, 3, 0, 1, 100}, {1, 0, 3, 0, 1, -1},
        };
        for (int[] b : bad) {
            for (int at = 0; at < 4; at++) {
                int[] four = new int[24];
                for (int i = 0; i < 4; i++) {
                    System.arraycopy(i == at ? b : new int[] {1, 0, 3, 0, 5 + i, 1}, 0, four, 6 * i, 6);
                }
                new Story().row(0, 2, four).does(at, "read", 0).asks(at, "count", 3);
            }
        }
        new Story().row(0, 0, 1, 0, 3, 0, 200, 1).does(0, "read", 0).asks(0, "count", 3);
        new Story().row(0, 0, 1, 255, 3, 0, 127, 1).does(1, "read", 0).asks(NONE, "bargainIs", 0, 1).asks(127, "bargainIs", 0, 4);
        Story s = Story.world();
        s.again().does(0, "read", 0).does(0, "read", 1).does(1, "read", 2).asks(7, "count", 3);
        s.refuses(NULL, "read", 3).refuses(BAD, "read", 4).refuses(BAD, "read", -1).refuses(BAD, "read", LEAST).refuses(BAD, "read", MOST);
    }

    private static void readingUntilFull() {
        Story.sentence("BARGAINS, 10 at most");
        int[] three = {1, 0, 3, 0, 5, 1, 1, 0, 3, 0, 6, 1, 1, 0, 3, 0, 7, 1};
        for (int before = 6; before <= 10; before++) {
            int room = Math.min(3, 10 - before);
            Story s = manyBargains(before).row(0, 2, three).does(room, "read", 0).asks(before + room, "count", 3).asks(0, "count", 8);
            if (room > 0) {
                s.asks(4 + room, "bargainIs", before + room - 1, 4);
            }
        }
    }

    private static void whatIsAskedOfThings() {
        Story s = Story.world();
        Story.sentence("Of a LEAVE: 0 FORM, 1 GIVER, 2 HOLDER, 3 more, 4 SORTS, 5 LIMIT, 6, 7 its DAYS, 8 its ROOT (NONE), 9 how often it was passed on. BAD.");
        s.beyond(0, 0, 3, "leaveIs", 0, 0).beyond(1, 0, 9, "leaveIs", 3, 0).beyond(1, 0, 9, "leaveIs", 0, 0);
        int[][] leaves = {
            {0, 0, 1, 1, 15, 100, 0, 99, NONE, 0}, {1, 2, 1, 0, 1, 5, 0, 99, NONE, 0}, {2, 5, 1, 3, 3, 80, 0, 99, NONE, 0}, {3, 0, 4, 1, 7, 90, 10, 90, 0, 1},
        };
        for (int l = 0; l < 4; l++) {
            for (int what = 0; what < 10; what++) {
                s.asks(leaves[l][what], "leaveIs", l, what);
            }
        }
        new Story().refuses(BAD, "leaveIs", 0, 0);
        Story.sentence("Of a BARGAIN: 0 DOER, 1 NAMED, 2 OTHER, 3 SORT, 4 WORTH, 5 DAY. BAD.");
        s.beyond(0, 0, 5, "bargainIs", 0, 0).beyond(1, 0, 5, "bargainIs", 0, 0).beyond(1, 0, 5, "bargainIs", 5, 0);
        int[][] bargains = {{1, 0, 3, 0, 105, 50}, {1, NONE, 3, 1, 90, 20}, {4, 0, 6, 2, 90, 30}, {1, 5, 3, 0, 80, 59}, {2, 2, 7, 3, 999, 0}, {6, 7, 0, 1, 40, 50}};
        for (int b = 0; b < 6; b++) {
            for (int what = 0; what < 6; what++) {
                s.asks(bargains[b][what], "bargainIs", b, what);
            }
        }
        new Story().refuses(BAD, "bargainIs", 0, 0);
    }

    private static void aNewObject() {
        Story.sentence("Nothing is told; all SHEETS are LOST.");
        Story s = new Story();
        for (int i = 0; i < 9; i++) {
            s.asks(i == 7 ? 8000 : 0, "count", i);
        }
        for (int i = 0; i < 4; i++) {
            s.again().refuses(NULL, "lose", i);
        }
        s.refuses(BAD, "leaveIs", 0, 0).refuses(BAD, "bargainIs", 0, 0).refuses(BAD, "heard", 0, 0).refuses(BAD, "after", 0, 0, 0, 1, 0);
        s.refuses(BAD, "reaches", 0, 0, 0, 0).refuses(BAD, "bound", 0, 0, 0).refuses(BAD, "till", 0, 0).refuses(BAD, "ask", 0, 0, 0);
        s.refuses(BAD, "owes", 0, 0).refuses(BAD, "end", 0, 1, 0).refuses(BAD, "sure", 0, 0, 0).refuses(BAD, "hangs", 0, 0, 0);
        s.refuses(BAD, "wanted", 0, 0).refuses(BAD, "turned", 0).refuses(BAD, "letter", 0, 1, 1, 0);
        for (int p = 0; p < 8; p++) {
            s.asks(1000, "end", 0, 0, p).asks(1000, "end", 1, 0, p);
        }
        s.asks(1, "letter", 0, 1, 0, 0).asks(0, "letter", 0, 1, 0, 1);
        new WhoseName().leave(0, 0, 1, 1, 1, 1, 0, 0);
        new Story().asks(0, "count", 0);
    }
}
