/** The edges of what is ENDED, what REACHES, WELL and BOUND: part 2, promises 15 to 17. */
public final class EdgeBoundTest {
    private static final int NONE = Story.NONE, BAD = Story.BAD, NOT = Story.NOT;

    public static void main(String[] args) {
        endedInTime();
        endedBySending();
        endedByWhoHears();
        endedSeem();
        endedNever();
        holderIsDoer();
        daysAndSorts();
        namedIsGiver();
        notEnded();
        worthAndLimit();
        worthAndPost();
        seems();
        passedRoots();
        passedOften();
        wellInTime();
        wellOfSoMuch();
        wellUnlessNotAhead();
        boundForItself();
        boundForNamed();
        boundForNobody();
        why();
        tillWhen();
        refusals();
        Story.conclude();
    }

    /** A WORD from 0 to 1 and BARGAINS on the days 49, 50, 51, 0 and 99. */
    private static Story wordAndDays() {
        return new Story().does(0, "leave", 0, 0, 1, 1, 15, 100, 0, 99)
                .does(0, "bargain", 1, 0, 3, 0, 10, 49).does(1, "bargain", 1, 0, 3, 0, 10, 50).does(2, "bargain", 1, 0, 3, 0, 10, 51)
                .does(3, "bargain", 1, 0, 3, 0, 10, 0).does(4, "bargain", 1, 0, 3, 0, 10, 99);
    }

    /** Which BARGAINS it is ENDED for; the others it REACHES. */
    private static void ended(Story s, int b, int leave, int... want) {
        s.law(0, "b=" + b);
        for (int i = 0; i < want.length; i++) {
            s.asks(want[i], "reaches", 0, leave, i, 1).asks(1 - want[i], "reaches", 0, leave, i, 0);
        }
    }

    private static void endedInTime() {
        Story.sentence("By a LAW a LEAVE is ENDED for a BARGAIN, if it was taken back in time");
        ended(wordAndDays(), 0, 0, 0, 0, 0, 0, 0);
        ended(wordAndDays(), 1, 0, 0, 0, 0, 0, 0);
        ended(wordAndDays(), 2, 0, 0, 0, 0, 0, 0);
        Story two = wordAndDays().does(1, "leave", 0, 0, 1, 0, 15, 100, 0, 99).does(0, "back", 1, 0, 1, 0).does(1, "back", 0, 0, 2, 0);
        ended(two, 0, 0, 1, 1, 1, 1, 1);
        ended(two, 1, 0, 0, 0, 0, 0, 0);
        ended(two, 1, 1, 1, 1, 1, 1, 1);
        Story some = wordAndDays().does(0, "back", 0, 60, 1, 60).does(1, "back", 0, 50, 1, 50).does(2, "back", 0, 70, 1, 70);
        for (int b = 0; b < 2; b++) {
            ended(some, b, 0, 0, 1, 1, 0, 1);
        }
        Story asLaws = wordAndDays().does(0, "back", 0, 50, 3, 50);
        asLaws.law(0, "b=1").law(1, "b=2").asks(0, "reaches", 0, 0, 1, 1).asks(1, "reaches", 1, 0, 1, 1);
    }

    private static void endedBySending() {
        Story.sentence("b 0: SENT on the BARGAIN's DAY or ahead of it");
        ended(wordAndDays().does(0, "back", 0, 50, 7, 100), 0, 0, 0, 1, 1, 0, 1);
        ended(wordAndDays().does(0, "back", 0, 50, 7, -1), 0, 0, 0, 1, 1, 0, 1);
        ended(wordAndDays().does(0, "back", 0, 0, 7, 100), 0, 0, 1, 1, 1, 1, 1);
        ended(wordAndDays().does(0, "back", 0, 1, 7, 100), 0, 0, 1, 1, 1, 0, 1);
        ended(wordAndDays().does(0, "back", 0, 99, 7, 100), 0, 0, 0, 0, 0, 0, 1);
        ended(wordAndDays().does(0, "back", 0, 50, 1, 60), 0, 0, 0, 1, 1, 0, 1);
    }

    private static void endedByWhoHears() {
        Story.sentence("1: HEARD by the HOLDER so; 2: HEARD so by the OTHER.");
        int[] hearer = {1, 3};
        for (int b = 1; b <= 2; b++) {
            ended(wordAndDays().does(0, "back", 0, 0, hearer[b - 1], 50), b, 0, 0, 1, 1, 0, 1);
            ended(wordAndDays().does(0, "back", 0, 0, hearer[b - 1], 0), b, 0, 1, 1, 1, 1, 1);
            ended(wordAndDays().does(0, "back", 0, 0, hearer[b - 1], 1), b, 0, 1, 1, 1, 0, 1);
            ended(wordAndDays().does(0, "back", 0, 99, hearer[b - 1], 99), b, 0, 0, 0, 0, 0, 1);
            ended(wordAndDays().does(0, "back", 0, 0, hearer[b - 1], 100), b, 0, 0, 0, 0, 0, 0);
            for (int other = 0; other < 8; other++) {
                int want = other == hearer[b - 1] ? 1 : 0;
                ended(wordAndDays().does(0, "back", 0, 0, other, 0), b, 0, want, want, want, want, want);
            }
        }
        Story posts = new Story().does(0, "leave", 1, 0, 1, 0, 1, 0, 0, 99).does(0, "bargain", 1, 0, 3, 0, 10, 50).does(1, "bargain", 1, 0, 4, 0, 10, 50);
        ended(posts.again().does(0, "back", 0, 50, 1, 50), 1, 0, 1, 1);
        ended(posts.again().does(0, "back", 0, 50, 3, 50), 2, 0, 1, 0);
        ended(posts.again().does(0, "back", 0, 50, 3, 50), 1, 0, 0, 0);
    }

    private static void endedSeem() {
        Story.sentence("Of a SEEM only what its THIRD HEARD counts.");
        Story s = new Story().does(0, "leave", 2, 0, 1, 3, 15, 100, 0, 99)
                .does(0, "bargain", 1, 0, 3, 0, 10, 49).does(1, "bargain", 1, 0, 3, 0, 10, 50).does(2, "bargain", 1, 0, 3, 0, 10, 51);
        for (int b = 0; b < 3; b++) {
            ended(s.again().does(0, "back", 0, 0, 3, 50), b, 0, 0, 1, 1);
            ended(s.again().does(0, "back", 0, 0, 3, 51), b, 0, 0, 0, 1);
            ended(s.again().does(0, "back", 0, 50, 3, 50), b, 0, 0, 1, 1);
            ended(s.again().does(0, "back", 0, 0, 3, 100), b, 0, 0, 0, 0);
            ended(s.again().does(0, "back", 0, 0, 3, -1), b, 0, 0, 0, 0);
            ended(s.again().does(0, "back", 0, 0, 1, 0), b, 0, 0, 0, 0);
            ended(s.again().does(0, "back", 0, 0, 0, 0), b, 0, 0, 0, 0);
        }
        Story other = s.again().does(3, "bargain", 1, 0, 4, 0, 10, 50).does(0, "back", 0, 0, 4, 0).law(0, "b=2");
        other.asks(0, "reaches", 0, 0, 3, 1).does(1, "back", 0, 0, 3, 50).asks(1, "reaches", 0, 0, 3, 1).asks(0, "reaches", 0, 0, 3, 0);
    }

    private static void endedNever() {
        Story.sentence("An OPEN hearing is never, unless it is told otherwise.");
        for (int b = 1; b <= 2; b++) {
            int hearer = b == 1 ? 1 : 3;
            ended(wordAndDays().does(0, "back", 0, 0, hearer, -1), b, 0, 0, 0, 0, 0, 0);
            ended(wordAndDays().does(0, "back", 0, 0, hearer, -1).does(1, "heard", 0, 100), b, 0, 0, 0, 0, 0, 0);
            ended(wordAndDays().does(0, "back", 0, 0, hearer, -1).does(1, "heard", 0, 99), b, 0, 0, 0, 0, 0, 1);
            ended(wordAndDays().does(0, "back", 0, 0, hearer, -1).does(1, "heard", 0, 50), b, 0, 0, 1, 1, 0, 1);
            ended(wordAndDays().does(0, "back", 0, 0, hearer, -1).does(1, "heard", 0, 0), b, 0, 1, 1, 1, 1, 1);
        }
    }

    private static void holderIsDoer() {
        Story.sentence("A LEAVE REACHES a BARGAIN, if its HOLDER is the DOER");
        for (int doer = 0; doer < 8; doer++) {
            if (doer != 6 && doer != 5) {
                Story s = new Story().does(0, "leave", 0, 6, 0, 1, 15, 100, 0, 99).does(1, "leave", 0, 6, 7, 1, 15, 100, 0, 99);
                s.does(0, "bargain", doer, 6, 5, 0, 10, 50);
                s.asks(doer == 0 ? 1 : 0, "reaches", 0, 0, 0, 0).asks(doer == 7 ? 1 : 0, "reaches", 0, 1, 0, 0);
            }
        }
    }

    private static int reachedBy(int[] leave, int sort, int worth, int day, String law) {
        WhoseName x = new WhoseName();
        x.leave(leave[0], leave[1], leave[2], leave[3], leave[4], leave[5], leave[6], leave[7]);
        x.bargain(leave[2], leave[1], 3, sort, worth, day);
        for (int i = 0; i < law.length(); i++) {
            x.type(1, law.charAt(i));
        }
        return x.reaches(1, 0, 0, 0);
    }

    private static void daysAndSorts() {
        Story.sentence("its DAYS have the BARGAIN's, its SORTS its SORT (not asked of a POST)");
        int[][] spans = {{10, 20}, {10, 10}, {0, 99}, {0, 0}, {99, 99}, {0, 98}, {1, 99}};
        for (int form = 0; form < 3; form++) {
            for (int[] span : spans) {
                int[] leave = {form, 0, 1, form == 2 ? 3 : 0, 15, 100, span[0], span[1]};
                for (int day = 0; day < 100; day++) {
                    int want = day >= span[0] && day <= span[1] ? 1 : 0;
                    Story.check("form " + form + ", days " + span[0] + " to " + span[1] + ", day " + day, reachedBy(leave, 0, 10, day, ""), want);
                }
            }
            for (int sorts = 1; sorts < 16; sorts++) {
                for (int sort = 0; sort < 4; sort++) {
                    int[] leave = {form, 0, 1, form == 2 ? 3 : 0, sorts, 100, 0, 99};
                    int want = form == 1 || (sorts >> sort & 1) == 1 ? 1 : 0;
                    Story.check("form " + form + ", sorts " + sorts + ", sort " + sort, reachedBy(leave, sort, 10, 50, ""), want);
                }
            }
        }
    }

    private static void namedIsGiver() {
        Story.sentence("the NAMED one is the GIVER, or nobody is named (a SEEM: the GIVER must be named)");
        for (int form = 0; form < 3; form++) {
            for (int named = -1; named < 8; named++) {
                if (named == 3) {
                    continue;
                }
                Story s = new Story().does(0, "leave", form, 0, 1, form == 2 ? 3 : 0, 15, 100, 0, 99).does(0, "bargain", 1, named, 3, 0, 10, 50);
                s.asks(named == 0 || named == NONE && form != 2 ? 1 : 0, "reaches", 0, 0, 0, 0);
            }
        }
        Story passed = new Story().does(0, "leave", 0, 0, 1, 1, 15, 100, 0, 99).does(1, "leave", 3, 0, 2, 0, 15, 100, 0, 99);
        passed.does(0, "bargain", 2, 0, 3, 0, 10, 50).does(1, "bargain", 2, 1, 3, 0, 10, 50).does(2, "bargain", 2, NONE, 3, 0, 10, 50).does(3, "bargain", 2, 2, 3, 0, 10, 50);
        passed.asks(1, "reaches", 0, 1, 0, 0).asks(0, "reaches", 0, 1, 1, 0).asks(1, "reaches", 0, 1, 2, 0).asks(0, "reaches", 0, 1, 3, 0);
        Story home = new Story().does(0, "leave", 0, 0, 1, 1, 15, 100, 0, 99).does(1, "leave", 3, 0, 0, 0, 15, 100, 0, 99);
        home.does(0, "bargain", 0, 0, 3, 0, 10, 50).does(1, "bargain", 0, NONE, 3, 0, 10, 50).law(1, "n=1");
        home.asks(1, "reaches", 0, 1, 0, 0).asks(30, "bound", 0, 0, 1).asks(1, "bound", 0, 0, 0);
        home.asks(1, "reaches", 1, 1, 1, 0).asks(1, "bound", 1, 1, 1).asks(1, "bound", 1, 1, 0).asks(0, "owes", 1, 1);
    }

    private static void notEnded() {
        Story.sentence("it is not ENDED");
        Story s = wordAndDays().does(0, "back", 0, 50, 1, 50);
        s.asks(1, "reaches", 0, 0, 0, 0).asks(0, "reaches", 0, 0, 0, 1).asks(0, "reaches", 0, 0, 1, 0).asks(1, "reaches", 0, 0, 1, 1);
    }

    private static void limit(int form, int limit, String law, int most) {
        int[] leave = {form, 0, 1, form == 2 ? 3 : 0, 15, limit, 0, 99};
        String what = "form " + form + ", limit " + limit + ", " + law + ", worth ";
        if (most > 0) {
            Story.check(what + (most - 1), reachedBy(leave, 0, most - 1, 50, law), 1);
        }
        Story.check(what + most, reachedBy(leave, 0, most, 50, law), 1);
        if (most < 999) {
            Story.check(what + (most + 1), reachedBy(leave, 0, most + 1, 50, law), 0);
            Story.check(what + 999, reachedBy(leave, 0, 999, 50, law), 0);
        }
    }

    private static void worthAndLimit() {
        Story.sentence("WORTH is no more than its LIMIT (of a POST ten times p in place of it) and t hundredths of that (cut).");
        int[][] edges = {
            {0, 0, 0}, {0, 99, 0}, {1, 0, 1}, {1, 99, 1}, {2, 50, 3}, {2, 49, 2}, {9, 99, 17}, {10, 9, 10}, {10, 10, 11}, {55, 10, 60},
            {99, 1, 99}, {100, 1, 101}, {100, 0, 100}, {100, 99, 199}, {101, 99, 200}, {199, 1, 200}, {199, 99, 396}, {333, 33, 442}, {500, 99, 995},
            {502, 99, 998}, {998, 0, 998}, {999, 0, 999}, {999, 99, 999}, {503, 99, 999},
        };
        for (int[] e : edges) {
            limit(0, e[0], "t=" + e[1], e[2]);
            limit(2, e[0], "t=" + e[1], e[2]);
        }
    }

    private static void worthAndPost() {
        Story.sentence("(of a POST ten times p in place of it)");
        int[][] edges = {
            {0, 0, 0}, {0, 99, 0}, {1, 0, 10}, {1, 9, 10}, {1, 10, 11}, {10, 0, 100}, {10, 1, 101}, {11, 1, 111}, {99, 0, 990}, {99, 1, 999}, {98, 1, 989}, {50, 99, 995},
        };
        for (int[] e : edges) {
            limit(1, 0, "p=" + e[0] + ";t=" + e[1], e[2]);
            limit(1, 999, "p=" + e[0] + ";t=" + e[1], e[2]);
        }
        limit(1, 0, "", 100);
        limit(1, 999, "", 100);
        limit(0, 300, "p=5", 300);
    }

    private static void seems() {
        Story.sentence("A SEEM: s is 1, and the OTHER is its THIRD.");
        Story s = new Story().does(0, "leave", 2, 0, 1, 3, 15, 100, 0, 99).does(1, "leave", 0, 0, 1, 0, 15, 100, 0, 99).does(2, "leave", 1, 0, 1, 0, 15, 100, 0, 99);
        s.does(0, "bargain", 1, 0, 3, 0, 100, 50).does(1, "bargain", 1, 0, 2, 0, 100, 50).does(2, "bargain", 1, 0, 4, 0, 100, 50);
        s.law(0, "s=1").law(1, "s=0");
        for (int b = 0; b < 3; b++) {
            s.asks(b == 0 ? 1 : 0, "reaches", 0, 0, b, 0).asks(0, "reaches", 1, 0, b, 0);
            for (int l = 1; l < 3; l++) {
                s.asks(1, "reaches", 0, l, b, 0).asks(1, "reaches", 1, l, b, 0);
            }
        }
    }

    /** A PASSED one of a PASSED one; one of the three LEAVES is made narrower. */
    private static Story chain(int narrow, int sorts, int limit, int first, int last) {
        Story s = new Story();
        for (int i = 0; i < 3; i++) {
            boolean is = i == narrow;
            s.does(i, "leave", i == 0 ? 0 : 3, i == 0 ? 0 : i - 1, i == 0 ? 1 : 2 * i, 1, is ? sorts : 15, is ? limit : 999, is ? first : 0, is ? last : 99);
        }
        return s.law(0, "c=2;t=10");
    }

    private static void passedRoots() {
        Story.sentence("A PASSED one: its ROOT, too, has the DAY and the SORT, is not ENDED, and its LIMIT is enough so; and likewise the ROOT of that, if it is PASSED itself");
        for (int narrow = 0; narrow < 3; narrow++) {
            Story s = chain(narrow, 4, 55, 10, 20);
            s.does(0, "bargain", 4, 0, 3, 2, 60, 10).does(1, "bargain", 4, 0, 3, 2, 60, 20).does(2, "bargain", 4, 0, 3, 2, 60, 9).does(3, "bargain", 4, 0, 3, 2, 60, 21);
            s.does(4, "bargain", 4, 0, 3, 1, 60, 10).does(5, "bargain", 4, 0, 3, 3, 60, 10).does(6, "bargain", 4, 0, 3, 2, 59, 11).does(7, "bargain", 4, 0, 3, 2, 61, 19);
            int[] want = {1, 1, 0, 0, 0, 0, 1, 0};
            for (int b = 0; b < 8; b++) {
                s.asks(want[b], "reaches", 0, 2, b, 0);
            }
            int holder = new int[] {1, 2, 4}[narrow];
            Story back = s.again().does(0, "back", narrow, 0, holder, 20);
            back.asks(1, "reaches", 0, 2, 0, 0).asks(0, "reaches", 0, 2, 1, 0).asks(1, "reaches", 0, narrow, 1, 1);
            for (int l = 0; l < 3; l++) {
                back.asks(l == narrow ? 1 : 0, "reaches", 0, l, 1, 1);
            }
            Story never = s.again().does(0, "back", narrow, 0, holder, 21);
            never.asks(1, "reaches", 0, 2, 1, 0).law(0, "c=2;t=10;b=0").asks(0, "reaches", 0, 2, 1, 0);
            Story others = s.again().does(0, "back", narrow, 0, 3, 20).asks(1, "reaches", 0, 2, 1, 0).law(0, "c=2;t=10;b=2");
            others.asks(0, "reaches", 0, 2, 1, 0).asks(1, "reaches", 0, 2, 0, 0);
        }
    }

    private static void passedOften() {
        Story.sentence("it was passed on no more than c times (1 for a PASSED one whose ROOT is a WORD).");
        Story s = new Story().does(0, "leave", 0, 0, 1, 1, 15, 999, 0, 99);
        for (int i = 1; i < 12; i++) {
            s.does(i, "leave", 3, i - 1, 2 + (i - 1) % 6, 1, 15, 999, 0, 99).asks(i, "leaveIs", i, 9);
        }
        for (int i = 0; i < 6; i++) {
            s.does(i, "bargain", 2 + i, 0, 1, 0, 10, 50);
        }
        s.does(6, "bargain", 1, 0, 2, 0, 10, 50);
        for (int c = 0; c <= 9; c++) {
            s = s.again().law(0, "c=" + c).asks(1, "reaches", 0, 0, 6, 0);
            for (int i = 1; i < 12; i++) {
                s.asks(i <= c ? 1 : 0, "reaches", 0, i, (i - 1) % 6, 0);
            }
        }
        s.law(0, "").asks(1, "reaches", 0, 1, 0, 0).asks(0, "reaches", 0, 2, 1, 0);
    }

    /** WHY of a BARGAIN on a DAY, of a WORTH, behind AFTERS: person, day, well, much for each. */
    private static int wellWhy(String law, int day, int worth, int... said) {
        WhoseName x = new WhoseName();
        x.bargain(1, 0, 3, 0, 0, 0);
        x.bargain(1, 0, 3, 0, worth, day);
        for (int i = 0; i + 3 < said.length; i += 4) {
            Story.check("after", x.after(1, said[i], said[i + 1], said[i + 2], said[i + 3]), i / 4);
        }
        for (int i = 0; i < law.length(); i++) {
            x.type(0, law.charAt(i));
        }
        Story.check("beside it", x.bound(0, 0, 1), NONE);
        int why = x.bound(0, 1, 1);
        Story.check("BOUND with WHY " + why, x.bound(0, 1, 0), why == 20 ? 1 : 0);
        return why;
    }

    private static void wellInTime() {
        Story.sentence("WELL: the NAMED one (not the DOER) said on a DAY no more than a behind the BARGAIN's that it is well");
        int[][] edges = {{10, 50, 60}, {0, 50, 50}, {1, 50, 51}, {99, 0, 99}, {98, 0, 98}, {49, 50, 99}, {48, 50, 98}, {0, 99, 99}, {0, 0, 0}, {99, 99, 99}};
        for (int[] e : edges) {
            String law = "a=" + e[0];
            Story.check(law + " on the last day", wellWhy(law, e[1], 5, 0, e[2], 1, 5), 20);
            if (e[2] > e[1]) {
                Story.check(law + " a day ahead", wellWhy(law, e[1], 5, 0, e[2] - 1, 1, 5), 20);
            }
            if (e[2] < 99) {
                Story.check(law + " a day late", wellWhy(law, e[1], 5, 0, e[2] + 1, 1, 5), NONE);
            }
        }
        Story.check("without any a", wellWhy("", 50, 5, 0, 60, 1, 5), 20);
        Story.check("without any a", wellWhy("", 50, 5, 0, 61, 1, 5), NONE);
        for (int p = 1; p < 8; p++) {
            Story.check("said by " + p, wellWhy("", 50, 5, p, 50, 1, 5), NONE);
        }
        Story.check("late, then in time", wellWhy("", 50, 5, 0, 61, 1, 5, 0, 60, 1, 5), 20);
        Story self = new Story().does(0, "bargain", 1, 1, 3, 0, 5, 50).does(0, "after", 0, 1, 50, 1, 5).asks(30, "bound", 0, 0, 1);
        self.does(1, "bargain", 1, NONE, 3, 0, 5, 50).does(1, "after", 1, 1, 50, 1, 5).does(2, "after", 1, 0, 50, 1, 5).asks(30, "bound", 0, 1, 1);
    }

    private static void wellOfSoMuch() {
        Story.sentence("(w 1: of WORTH or more)");
        int[] worths = {0, 1, 50, 998, 999};
        for (int worth : worths) {
            Story.check("of WORTH", wellWhy("w=1", 50, worth, 0, 50, 1, worth), 20);
            Story.check("of WORTH", wellWhy("", 50, worth, 0, 50, 1, worth), 20);
            if (worth < 999) {
                Story.check("of one more", wellWhy("w=1", 50, worth, 0, 50, 1, worth + 1), 20);
            }
            if (worth > 0) {
                Story.check("of one less", wellWhy("w=1", 50, worth, 0, 50, 1, worth - 1), NONE);
                Story.check("of one less, not asked", wellWhy("w=0", 50, worth, 0, 50, 1, worth - 1), 20);
                Story.check("of none, not asked", wellWhy("w=0", 50, worth, 0, 50, 1, 0), 20);
            }
        }
        Story.check("of too little, then of enough", wellWhy("", 50, 5, 0, 50, 1, 4, 0, 50, 1, 5), 20);
        Story.check("twice of too little", wellWhy("", 50, 5, 0, 50, 1, 3, 0, 50, 1, 3), NONE);
    }

    private static void wellUnlessNotAhead() {
        Story.sentence("and it did not say ahead of that (by DAYS, then as told) that it is not.");
        Story.check("a day ahead", wellWhy("", 50, 5, 0, 51, 0, 5, 0, 52, 1, 5), NONE);
        Story.check("a day ahead, told behind", wellWhy("", 50, 5, 0, 52, 1, 5, 0, 51, 0, 5), NONE);
        Story.check("on that day, told ahead", wellWhy("", 50, 5, 0, 52, 0, 5, 0, 52, 1, 5), NONE);
        Story.check("on that day, told behind", wellWhy("", 50, 5, 0, 52, 1, 5, 0, 52, 0, 5), 20);
        Story.check("a day behind", wellWhy("", 50, 5, 0, 52, 1, 5, 0, 53, 0, 5), 20);
        Story.check("a day behind, told ahead", wellWhy("", 50, 5, 0, 53, 0, 5, 0, 52, 1, 5), 20);
        Story.check("of nothing, ahead", wellWhy("", 50, 5, 0, 51, 0, 0, 0, 52, 1, 5), NONE);
        Story.check("not, by another one", wellWhy("", 50, 5, 1, 51, 0, 5, 0, 52, 1, 5), 20);
        Story.check("of too little, not, of enough", wellWhy("", 50, 5, 0, 50, 1, 4, 0, 51, 0, 5, 0, 52, 1, 5), NONE);
        Story.check("the same where w is 0", wellWhy("w=0", 50, 5, 0, 50, 1, 4, 0, 51, 0, 5, 0, 52, 1, 5), 20);
        Story.check("well, not, well", wellWhy("", 50, 5, 0, 50, 1, 5, 0, 51, 0, 5, 0, 52, 1, 5), 20);
        Story.check("not on its own day", wellWhy("", 50, 5, 0, 50, 0, 5, 0, 50, 1, 5, 0, 51, 1, 5), NONE);
        Story other = new Story().does(0, "bargain", 1, 0, 3, 0, 5, 50).does(1, "bargain", 1, 0, 3, 0, 5, 50);
        other.does(0, "after", 0, 0, 50, 0, 5).does(1, "after", 1, 0, 50, 1, 5).asks(NONE, "bound", 0, 0, 1).asks(20, "bound", 0, 1, 1);
    }

    private static void boundForItself() {
        Story.sentence("BOUND to the OTHER by a BARGAIN: the DOER, if it is the NAMED one.");
        for (int doer = 0; doer < 8; doer++) {
            Story s = new Story().does(0, "bargain", doer, doer, (doer + 1) % 8, 0, 5, 50);
            s.asks(1 << doer, "bound", 0, 0, 0).asks(30, "bound", 0, 0, 1).does(0, "after", 0, doer, 50, 0, 5).asks(1 << doer, "bound", 0, 0, 0);
        }
    }

    private static void boundForNamed() {
        Story.sentence("Else, if a PERSON is named: that one, if some LEAVE REACHES, or it is WELL; else nobody.");
        for (int named = 0; named < 8; named += 7) {
            Story s = new Story().does(0, "leave", 0, named, 1, 0, 1, 50, 0, 99).does(0, "bargain", 1, named, 3, 0, 50, 50).does(1, "bargain", 1, named, 3, 0, 51, 50);
            s.asks(1 << named, "bound", 0, 0, 0).asks(0, "bound", 0, 0, 1).asks(0, "bound", 0, 1, 0).asks(NONE, "bound", 0, 1, 1);
            s.does(0, "after", 1, named, 50, 1, 51).asks(1 << named, "bound", 0, 1, 0).asks(20, "bound", 0, 1, 1);
            for (int n = 0; n < 3; n++) {
                s.law(0, "n=" + n).asks(1 << named, "bound", 0, 0, 0).asks(1 << named, "bound", 0, 1, 0);
            }
        }
    }

    private static void boundForNobody() {
        Story.sentence("If nobody is named: by the first LEAVE (by numbers) that REACHES n 0 the DOER, 1 its GIVER, 2 both; without any the DOER.");
        Story s = new Story().does(0, "leave", 0, 7, 1, 1, 15, 10, 0, 99).does(1, "leave", 0, 0, 1, 1, 15, 20, 0, 99).does(2, "leave", 1, 5, 1, 0, 1, 0, 0, 99);
        s.does(0, "bargain", 1, NONE, 3, 0, 10, 50).does(1, "bargain", 1, NONE, 3, 0, 11, 50).does(2, "bargain", 1, NONE, 3, 0, 20, 50);
        s.does(3, "bargain", 1, NONE, 3, 0, 21, 50).does(4, "bargain", 1, NONE, 3, 0, 100, 50).does(5, "bargain", 1, NONE, 3, 0, 101, 50);
        int[] why = {0, 1, 1, 2, 2, 30};
        int[] giver = {128, 1, 1, 32, 32, 0};
        for (int n = 0; n < 3; n++) {
            s.law(0, "n=" + n);
            for (int b = 0; b < 6; b++) {
                int bits = b == 5 || n == 0 ? 2 : n == 1 ? giver[b] : giver[b] | 2;
                s.asks(bits, "bound", 0, b, 0).asks(why[b], "bound", 0, b, 1);
            }
        }
        s.does(0, "back", 0, 0, 1, 0).asks(1, "bound", 0, 0, 1).asks(3, "bound", 0, 0, 0);
    }

    private static void why() {
        Story.sentence("WHY: that first LEAVE; 20 if it is by WELL; 30 the DOER for itself, or for none; NONE: nobody is BOUND.");
        Story s = new Story();
        for (int i = 0; i < 11; i++) {
            s.does(i, "leave", 0, 0, 1, 0, 1, 10, 0, 99);
        }
        s.does(11, "leave", 0, 0, 1, 0, 1, 11, 0, 99).does(0, "bargain", 1, 0, 3, 0, 10, 50).does(1, "bargain", 1, 0, 3, 0, 11, 50).does(2, "bargain", 1, 0, 3, 0, 12, 50);
        s.does(0, "after", 0, 0, 50, 1, 10).does(1, "after", 1, 0, 50, 1, 11);
        s.asks(0, "bound", 0, 0, 1).asks(11, "bound", 0, 1, 1).asks(NONE, "bound", 0, 2, 1).asks(0, "bound", 0, 2, 0);
        for (int i = 0; i < 11; i++) {
            s.does(i, "back", i, 50, 1, 50).asks(i + 1, "bound", 0, 0, 1);
        }
        s.does(11, "back", 11, 50, 1, 50).asks(20, "bound", 0, 0, 1).asks(20, "bound", 0, 1, 1).asks(1, "bound", 0, 1, 0);
        s.does(3, "bargain", 1, NONE, 3, 0, 10, 50).asks(30, "bound", 0, 3, 1).does(4, "bargain", 1, 1, 3, 0, 10, 50).asks(30, "bound", 0, 4, 1);
    }

    private static void tillWhen() {
        Story.sentence("The DAY until which the NAMED one may still say that it is well (99 at most).");
        int[][] edges = {{0, 0, 0}, {0, 99, 99}, {0, 98, 98}, {50, 0, 50}, {50, 48, 98}, {50, 49, 99}, {50, 50, 99}, {50, 99, 99}, {99, 0, 99}, {99, 1, 99}, {98, 0, 98}, {98, 1, 99}, {98, 2, 99}};
        for (int[] e : edges) {
            new Story().does(0, "bargain", 1, 0, 3, 0, 5, e[0]).law(1, "a=" + e[1]).asks(e[2], "till", 1, 0).asks(Math.min(99, e[0] + 10), "till", 0, 0);
        }
        Story.sentence("BAD; NOT: nobody is named, or the DOER.");
        Story s = Story.world();
        s.asks(60, "till", 0, 0).asks(69, "till", 1, 3).refuses(NOT, "till", 0, 1).refuses(NOT, "till", 1, 4);
        s.refuses(BAD, "till", 2, 1).refuses(BAD, "till", 2, 4).refuses(BAD, "till", -1, 0).beyond(1, 0, 5, "till", 0, 0);
    }

    private static void refusals() {
        Story s = Story.world();
        Story.sentence("Whether a LEAVE REACHES a BARGAIN (what = 0), is ENDED for it (1): 1, 0. BAD.");
        s.asksWithin(1, 0, 3, "reaches", 0, 0, 0, 0).asksWithin(2, 0, 5, "reaches", 0, 0, 0, 0).asksWithin(3, 0, 1, "reaches", 0, 0, 0, 0);
        s.asksWithin(0, 0, 1, "reaches", 0, 0, 0, 1).refuses(BAD, "reaches", 0, 4, 6, 2);
        Story.sentence("BOUND by a BARGAIN, as bits (what = 0), WHY (1). BAD.");
        s.beyond(0, 0, 1, "bound", 0, 0, 0).asksWithin(1, 0, 5, "bound", 0, 0, 0).asksWithin(2, 0, 1, "bound", 0, 0, 0);
        s.asks(1, "bound", 0, 0, 0).asks(0, "bound", 0, 0, 1);
    }
}
