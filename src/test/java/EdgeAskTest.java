/** The edges of what may be asked, is owed and borne in the end: part 3, promises 18 to 20. */
public final class EdgeAskTest {
    private static final int NONE = Story.NONE, BAD = Story.BAD;

    public static void main(String[] args) {
        askOfWhoIsBound();
        askOfTheDoer();
        owesAboveTheLimit();
        owesByOthers();
        paidWhatIsAsked();
        paidAsMuchAsPursesHave();
        theDoerLast();
        inTheOthersPurseThen();
        theDoerMakesGood();
        toTheLeastBoundOne();
        byNumbers();
        whereTheOtherGave();
        lost();
        nothingIsMoved();
        openIsNever();
        refusals();
        Story.conclude();
    }

    private static void askOfWhoIsBound() {
        Story.sentence("ASK of a PERSON by a BARGAIN: WORTH, if it is BOUND.");
        for (int worth : new int[] {0, 1, 99, 998, 999}) {
            Story s = new Story().does(0, "leave", 0, 7, 1, 1, 15, 999, 0, 99).law(0, "o=2").law(1, "n=2");
            s.does(0, "bargain", 1, 7, 3, 0, worth, 50).does(1, "bargain", 1, NONE, 3, 0, worth, 50).does(2, "bargain", 0, 0, 3, 0, worth, 50).does(3, "bargain", 2, NONE, 3, 0, worth, 50);
            int[] bits = {128, 2, 1, 4}, both = {128, 130, 1, 4};
            for (int b = 0; b < 4; b++) {
                for (int p = 0; p < 8; p++) {
                    s.asks((bits[b] >> p & 1) * worth, "ask", 0, b, p).asks((both[b] >> p & 1) * worth, "ask", 1, b, p);
                }
            }
        }
    }

    private static void askOfTheDoer() {
        Story.sentence("Of the DOER, where nobody is: o 0 nothing, 1 WORTH, 2 WORTH and a tenth of it (cut).");
        int[][] edges = {{0, 0}, {1, 1}, {9, 9}, {10, 11}, {11, 12}, {19, 20}, {20, 22}, {99, 108}, {100, 110}, {990, 1089}, {999, 1098}};
        for (int[] e : edges) {
            Story s = new Story().does(0, "bargain", 7, 0, 3, 0, e[0], 50);
            int[] want = {0, e[0], e[1]};
            for (int o = 0; o < 3; o++) {
                s.law(0, "o=" + o).asks(want[o], "ask", 0, 0, 7);
                for (int p = 0; p < 7; p++) {
                    s.asks(0, "ask", 0, 0, p);
                }
            }
            s.does(0, "after", 0, 0, 50, 1, 999).asks(0, "ask", 0, 0, 7).asks(e[0], "ask", 0, 0, 0);
        }
    }

    private static void owesAboveTheLimit() {
        Story.sentence("OWES the DOER to who is BOUND and is not it: what WORTH is more than the LIMIT (of a POST ten times p) of the LEAVE by which");
        for (int limit : new int[] {0, 1, 50, 500}) {
            for (int more = -1; more <= limit / 2; more += more < 2 ? 1 : 20) {
                if (limit + more >= 0) {
                    Story s = new Story().does(0, "leave", 0, 0, 1, 0, 1, limit, 0, 99).law(0, "t=50").does(0, "bargain", 1, 0, 3, 0, limit + more, 50);
                    s.asks(0, "bound", 0, 0, 1).asks(Math.max(0, more), "owes", 0, 0);
                }
            }
        }
        for (int p : new int[] {0, 1, 10, 60}) {
            for (int more = -1; more <= 5 * p; more += more < 2 ? 1 : 20) {
                if (p + more >= 0) {
                    Story s = new Story().does(0, "leave", 1, 0, 1, 0, 1, 3, 0, 99).law(0, "t=50;p=" + p).does(0, "bargain", 1, 0, 3, 3, 10 * p + more, 50);
                    s.asks(0, "bound", 0, 0, 1).asks(Math.max(0, more), "owes", 0, 0);
                }
            }
        }
        Story passed = new Story().does(0, "leave", 0, 0, 1, 1, 1, 90, 0, 99).does(1, "leave", 3, 0, 2, 0, 1, 80, 0, 99).law(0, "t=20");
        passed.does(0, "bargain", 2, 0, 3, 0, 96, 50).asks(1, "bound", 0, 0, 1).asks(16, "owes", 0, 0);
        Story first = new Story().does(0, "leave", 0, 0, 1, 1, 1, 90, 0, 99).does(1, "leave", 0, 0, 1, 1, 1, 999, 0, 99).law(0, "t=20");
        first.does(0, "bargain", 1, 0, 3, 0, 108, 50).does(1, "bargain", 1, 0, 3, 0, 109, 50).asks(18, "owes", 0, 0).asks(0, "owes", 0, 1);
        Story none = new Story().does(0, "leave", 0, 0, 1, 1, 1, 90, 0, 99).does(0, "bargain", 1, NONE, 3, 0, 95, 50);
        int[] want = {0, 5, 5};
        for (int n = 0; n < 3; n++) {
            none.law(0, "t=10;n=" + n).asks(0, "bound", 0, 0, 1).asks(want[n], "owes", 0, 0);
        }
    }

    private static void owesByOthers() {
        Story.sentence("or WORTH by a SEEM (0 by WELL).");
        for (int worth : new int[] {0, 1, 79, 80, 81, 96}) {
            Story s = new Story().does(0, "leave", 2, 0, 1, 3, 1, 80, 0, 99).law(0, "t=20").does(0, "bargain", 1, 0, 3, 0, worth, 50);
            s.asks(0, "bound", 0, 0, 1).asks(worth, "owes", 0, 0);
        }
        Story well = new Story().does(0, "leave", 2, 0, 1, 3, 1, 80, 0, 99).does(0, "bargain", 1, 0, 3, 0, 81, 50).does(0, "after", 0, 0, 50, 1, 81);
        well.asks(20, "bound", 0, 0, 1).asks(0, "owes", 0, 0).law(0, "t=2").asks(0, "bound", 0, 0, 1).asks(81, "owes", 0, 0);
        Story nobody = new Story().does(0, "bargain", 1, 0, 3, 0, 999, 50).asks(0, "owes", 0, 0);
        nobody.does(1, "bargain", 1, 1, 3, 0, 999, 50).asks(0, "owes", 0, 1).does(2, "bargain", 1, NONE, 3, 0, 999, 50).asks(0, "owes", 0, 2);
    }

    /** PURSES at the END by LAW 0, those that are not told are 1000; and LOST of BARGAIN 0. */
    private static void ends(Story s, int lost, int... personAndPurse) {
        int[] want = {1000, 1000, 1000, 1000, 1000, 1000, 1000, 1000};
        for (int i = 0; i + 1 < personAndPurse.length; i += 2) {
            want[personAndPurse[i]] = personAndPurse[i + 1];
        }
        for (int p = 0; p < 8; p++) {
            s.asks(want[p], "end", 0, 0, p);
        }
        s.asks(lost, "end", 0, 1, 0);
    }

    private static Story bound(int worth, int purse) {
        return new Story().does(0, "leave", 0, 0, 1, 1, 15, 999, 0, 99).does(0, "bargain", 1, 0, 3, 0, worth, 50).does(1000, "purse", 0, purse);
    }

    private static void paidWhatIsAsked() {
        Story.sentence("the OTHER is paid once what it may ask (the greatest ASK)");
        ends(bound(0, 1000), 0);
        ends(bound(1, 1000), 0, 0, 999, 3, 1001);
        ends(bound(999, 1000), 0, 0, 1, 3, 1999);
        Story unbound = new Story().does(0, "bargain", 1, 0, 3, 0, 95, 50);
        ends(unbound.again().law(0, "o=0"), 0);
        ends(unbound.again().law(0, "o=1"), 0, 1, 905, 3, 1095);
        ends(unbound.again().law(0, "o=2"), 0, 1, 896, 3, 1104);
        Story both = new Story().does(0, "leave", 0, 0, 1, 1, 15, 999, 0, 99).does(0, "bargain", 1, NONE, 3, 0, 95, 50);
        ends(both.again().law(0, "n=2"), 0, 0, 905, 3, 1095);
        ends(both.again().law(0, "n=1"), 0, 0, 905, 3, 1095);
        ends(both.again().law(0, "n=0"), 0, 1, 905, 3, 1095);
    }

    private static void paidAsMuchAsPursesHave() {
        Story.sentence("each as much as its PURSE has still");
        ends(bound(100, 101), 0, 0, 1, 3, 1100);
        ends(bound(100, 100), 0, 0, 0, 3, 1100);
        ends(bound(100, 99), 1, 0, 0, 3, 1099);
        ends(bound(100, 1), 99, 0, 0, 3, 1001);
        ends(bound(100, 0), 100, 0, 0, 3, 1000);
        Story unbound = new Story().does(0, "bargain", 1, 0, 3, 0, 100, 50).law(0, "o=2");
        ends(unbound.again().does(1000, "purse", 1, 111), 0, 1, 1, 3, 1110);
        ends(unbound.again().does(1000, "purse", 1, 110), 0, 1, 0, 3, 1110);
        ends(unbound.again().does(1000, "purse", 1, 109), 1, 1, 0, 3, 1109);
        ends(unbound.again().does(1000, "purse", 1, 0), 110, 1, 0, 3, 1000);
        ends(bound(999, 9999), 0, 0, 9000, 3, 1999);
        ends(bound(999, 9999).does(1000, "purse", 3, 9999), 0, 0, 9000, 3, 10998);
    }

    private static void theDoerLast() {
        Story.sentence("by those of whom it may ask, the DOER last, else by numbers");
        for (int giver = 0; giver < 8; giver += 7) {
            Story s = new Story().does(0, "leave", 0, giver, 1, 1, 15, 999, 0, 99).does(0, "bargain", 1, NONE, 3, 0, 40, 50).law(0, "n=2");
            ends(s.again().does(1000, "purse", giver, 41), 0, giver, 1, 3, 1040);
            ends(s.again().does(1000, "purse", giver, 40), 0, giver, 0, 3, 1040);
            ends(s.again().does(1000, "purse", giver, 39), 0, giver, 0, 1, 999, 3, 1040);
            ends(s.again().does(1000, "purse", giver, 0), 0, giver, 0, 1, 960, 3, 1040);
            ends(s.again().does(1000, "purse", giver, 15).does(1000, "purse", 1, 25), 0, giver, 0, 1, 0, 3, 1040);
            ends(s.again().does(1000, "purse", giver, 15).does(1000, "purse", 1, 24), 1, giver, 0, 1, 0, 3, 1039);
            ends(s.again().does(1000, "purse", giver, 0).does(1000, "purse", 1, 0), 40, giver, 0, 1, 0);
        }
    }

    private static void inTheOthersPurseThen() {
        Story.sentence("what is paid is in the OTHER's PURSE then.");
        Story s = new Story().does(1000, "purse", 3, 0).does(0, "bargain", 1, 1, 3, 0, 60, 50).does(1, "bargain", 3, 3, 4, 0, 60, 50);
        s.asks(0, "end", 0, 0, 3).asks(1060, "end", 0, 0, 4).asks(0, "end", 0, 1, 1);
        s.does(2, "bargain", 4, 4, 3, 0, 999, 50).asks(61, "end", 0, 0, 4).asks(999, "end", 0, 0, 3);
        Story less = new Story().does(1000, "purse", 3, 0).does(0, "bargain", 1, 1, 3, 0, 60, 50).does(1, "bargain", 3, 3, 4, 0, 61, 50);
        less.asks(0, "end", 0, 0, 3).asks(1060, "end", 0, 0, 4).asks(1, "end", 0, 1, 1);
        Story turned = new Story().does(1000, "purse", 3, 0).does(0, "bargain", 3, 3, 4, 0, 60, 50).does(1, "bargain", 1, 1, 3, 0, 60, 50);
        turned.asks(60, "end", 0, 0, 3).asks(1000, "end", 0, 0, 4).asks(60, "end", 0, 1, 0).asks(0, "end", 0, 1, 1);
    }

    /** 0 is BOUND for 90 by a LEAVE up to 50: the DOER OWES 40. */
    private static Story owing(int named, int doer) {
        Story s = new Story().does(0, "leave", 0, 0, 1, 1, 15, 50, 0, 99).does(0, "bargain", 1, 0, 3, 0, 90, 50).law(0, "t=80");
        return s.does(1000, "purse", 0, named).does(1000, "purse", 1, doer).asks(40, "owes", 0, 0);
    }

    private static void theDoerMakesGood() {
        Story.sentence("Then the DOER pays what it OWES (no more than was paid by who is BOUND, and than it has)");
        ends(owing(1000, 1000), 0, 0, 950, 1, 960, 3, 1090);
        ends(owing(90, 1000), 0, 0, 40, 1, 960, 3, 1090);
        ends(owing(89, 1000), 1, 0, 40, 1, 960, 3, 1089);
        ends(owing(41, 1000), 49, 0, 40, 1, 960, 3, 1041);
        ends(owing(40, 1000), 50, 0, 40, 1, 960, 3, 1040);
        ends(owing(39, 1000), 51, 0, 39, 1, 961, 3, 1039);
        ends(owing(0, 1000), 90, 0, 0, 1, 1000, 3, 1000);
        ends(owing(1000, 41), 0, 0, 950, 1, 1, 3, 1090);
        ends(owing(1000, 40), 0, 0, 950, 1, 0, 3, 1090);
        ends(owing(1000, 39), 0, 0, 949, 1, 0, 3, 1090);
        ends(owing(1000, 0), 0, 0, 910, 1, 0, 3, 1090);
        Story seem = new Story().does(0, "leave", 2, 0, 1, 3, 15, 90, 0, 99).does(0, "bargain", 1, 0, 3, 0, 90, 50);
        ends(seem.again(), 0, 1, 910, 3, 1090);
        ends(seem.again().does(1000, "purse", 0, 89), 1, 0, 89, 1, 911, 3, 1089);
        ends(seem.again().does(1000, "purse", 1, 89), 0, 0, 999, 1, 0, 3, 1090);
        Story well = new Story().does(0, "bargain", 1, 0, 3, 0, 90, 50).does(0, "after", 0, 0, 50, 1, 90);
        ends(well, 0, 0, 910, 3, 1090);
    }

    private static void toTheLeastBoundOne() {
        Story.sentence("to the least BOUND one that is not it.");
        for (int giver = 0; giver < 8; giver += 7) {
            Story s = new Story().does(0, "leave", 0, giver, 1, 1, 15, 50, 0, 99).does(0, "bargain", 1, NONE, 3, 0, 90, 50);
            ends(s.again().law(0, "t=80;n=2"), 0, giver, 950, 1, 960, 3, 1090);
            ends(s.again().law(0, "t=80;n=1"), 0, giver, 950, 1, 960, 3, 1090);
            ends(s.again().law(0, "t=80;n=0"), 0, 1, 910, 3, 1090);
            ends(s.again().law(0, "t=80;n=2").does(1000, "purse", giver, 40), 0, giver, 40, 1, 910, 3, 1090);
            // What the DOER, BOUND too, paid itself is not made good: NOTES.md tells of this reading.
            ends(s.again().law(0, "t=80;n=2").does(1000, "purse", giver, 41), 0, giver, 40, 1, 911, 3, 1090);
            ends(s.again().law(0, "t=80;n=2").does(1000, "purse", giver, 39), 0, giver, 39, 1, 910, 3, 1090);
            ends(s.again().law(0, "t=80;n=2").does(1000, "purse", giver, 0), 0, giver, 0, 1, 910, 3, 1090);
            ends(s.again().law(0, "t=80;n=2").does(1000, "purse", giver, 60).does(1000, "purse", 1, 40), 0, giver, 10, 1, 0, 3, 1090);
        }
    }

    private static void byNumbers() {
        Story.sentence("END: BARGAINS by numbers");
        Story s = new Story().does(0, "leave", 0, 0, 1, 1, 15, 50, 0, 99).law(0, "t=80").does(1000, "purse", 0, 100).does(1000, "purse", 1, 50);
        s.does(0, "bargain", 1, 0, 3, 0, 90, 90).does(1, "bargain", 1, 0, 4, 0, 90, 10).does(2, "bargain", 1, 0, 5, 0, 90, 50);
        s.asks(0, "end", 0, 1, 0).asks(40, "end", 0, 1, 1).asks(80, "end", 0, 1, 2);
        s.asks(1090, "end", 0, 0, 3).asks(1050, "end", 0, 0, 4).asks(1010, "end", 0, 0, 5).asks(0, "end", 0, 0, 0).asks(0, "end", 0, 0, 1);
        Story ten = new Story().does(1000, "purse", 1, 9999);
        for (int i = 0; i < 10; i++) {
            ten.does(i, "bargain", 1, 1, 3, 0, 999, 50).asks(9999 - 999 * (i + 1), "end", 0, 0, 1).asks(1000 + 999 * (i + 1), "end", 0, 0, 3);
        }
        ten.asks(0, "end", 0, 1, 9).does(9999, "purse", 1, 9989).asks(1, "end", 0, 1, 9).asks(0, "end", 0, 1, 8).asks(0, "end", 0, 0, 1);
    }

    private static void whereTheOtherGave() {
        Story.sentence("by those of whom it may ask, the DOER last, else by numbers, each as much as its PURSE has still; what is paid is in the OTHER's PURSE then.");
        Story s = new Story().does(0, "leave", 0, 3, 1, 1, 15, 50, 0, 99).does(0, "bargain", 1, NONE, 3, 0, 90, 50);
        ends(s.again().law(0, "t=80;n=1"), 0, 1, 960, 3, 1040);
        ends(s.again().law(0, "t=80;n=1").does(1000, "purse", 3, 30), 60, 1, 970, 3, 60);
        ends(s.again().law(0, "t=80;n=2").does(1000, "purse", 3, 60), 0, 1, 930, 3, 130);
    }

    private static void lost() {
        Story.sentence("LOST of a BARGAIN: what the OTHER did not get.");
        Story s = new Story().does(1000, "purse", 1, 0);
        int[] worths = {0, 1, 9, 10, 999};
        for (int i = 0; i < worths.length; i++) {
            s.does(i, "bargain", 1, 0, 3, 0, worths[i], 50);
        }
        int[][] want = {{0, 0, 0, 0, 0}, {0, 1, 9, 10, 999}, {0, 1, 9, 11, 1098}};
        for (int o = 0; o < 3; o++) {
            s.law(1, "o=" + o);
            for (int b = 0; b < 5; b++) {
                s.asks(want[o][b], "end", 1, 1, b).asks(worths[b], "end", 0, 1, b);
            }
        }
        s.asks(0, "end", 1, 0, 1).asks(1000, "end", 1, 0, 3);
    }

    private static void nothingIsMoved() {
        Story.sentence("END: the PURSE of a PERSON (which = 0), LOST of a BARGAIN (1). BAD.");
        Story s = bound(100, 70);
        ends(s, 30, 0, 0, 3, 1070);
        ends(s, 30, 0, 0, 3, 1070);
        s.asks(7070, "count", 7).does(70, "purse", 0, 100);
        ends(s, 0, 0, 0, 3, 1100);
    }

    private static void openIsNever() {
        Story.sentence("An OPEN hearing is never, unless it is told otherwise.");
        Story s = new Story().does(0, "leave", 0, 0, 1, 1, 15, 50, 0, 99).does(0, "bargain", 1, 0, 3, 0, 60, 50).law(0, "t=20").does(0, "back", 0, 50, 1, -1);
        s.asks(60, "ask", 0, 0, 0).asks(0, "ask", 0, 0, 1).asks(10, "owes", 0, 0);
        ends(s, 0, 0, 950, 1, 990, 3, 1060);
        Story never = s.again().does(1, "heard", 0, 51).asks(60, "ask", 0, 0, 0).asks(0, "ask", 0, 0, 1).asks(10, "owes", 0, 0);
        ends(never, 0, 0, 950, 1, 990, 3, 1060);
        Story heard = s.again().does(1, "heard", 0, 50).asks(0, "ask", 0, 0, 0).asks(60, "ask", 0, 0, 1).asks(0, "owes", 0, 0);
        ends(heard, 0, 1, 940, 3, 1060);
    }

    private static void refusals() {
        Story s = Story.world();
        Story.sentence("`int ask(int law, int bargain, int person)`: ASK. BAD.");
        s.asksWithin(0, 0, 1, "ask", 0, 0, 0).asksWithin(1, 0, 5, "ask", 0, 0, 0).asksWithin(2, 0, 7, "ask", 0, 0, 0);
        Story.sentence("`int owes(int law, int bargain)`: OWES. BAD.");
        s.asksWithin(0, 0, 1, "owes", 0, 0).asksWithin(1, 0, 5, "owes", 0, 0);
        Story.sentence("END: the PURSE of a PERSON (which = 0), LOST of a BARGAIN (1). BAD.");
        s.asksWithin(0, 0, 1, "end", 0, 0, 0).asksWithin(1, 0, 1, "end", 0, 0, 0).asksWithin(2, 0, 7, "end", 0, 0, 0).asksWithin(2, 0, 5, "end", 0, 1, 0);
        s.asksWithin(0, 0, 1, "end", 0, 1, 0).refuses(BAD, "end", 0, 1, 6).refuses(BAD, "end", 0, 1, 7);
        new Story().refuses(BAD, "end", 0, 1, 0).asks(1000, "end", 0, 0, 0);
        Story ten = new Story();
        for (int i = 0; i < 10; i++) {
            ten.does(i, "bargain", 1, 1, 3, 0, 1, 1);
        }
        ten.asksWithin(2, 0, 9, "end", 0, 1, 0).asksWithin(1, 0, 9, "ask", 0, 0, 0).asksWithin(1, 0, 9, "owes", 0, 0);
    }
}
