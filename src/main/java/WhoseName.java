/**
 * In whose name: leaves, what was taken back, bargains, what was said
 * afterwards, laws as texts, and who is bound, who pays, and what hangs on it.
 * The document's promises say what each public method does.
 */
public final class WhoseName {
    public static final int NONE = -1, BAD = -2, NOT = -3, FULL = -4;

    private static final int PERSONS = 8;
    private static final int LAST_DAY = 99;
    private static final int NEVER = 100;
    private static final int OPEN = -1;
    private static final int SORTS = 4;
    private static final int ALL_SORTS = 15;
    private static final int FIRST_PURSE = 1000;
    private static final int MOST_PURSE = 9999;
    private static final int MOST_AMOUNT = 999;

    private static final int LEAVES = 12;
    private static final int BACKS = 12;
    private static final int BARGAINS = 10;
    private static final int AFTERS = 12;
    private static final int LAWS = 2;
    private static final int SHEETS = 4;
    private static final int SHEET_ITEMS = 60;
    private static final int BARGAIN_ITEMS = 6;

    private static final int WORD = 0;
    private static final int POST = 1;
    private static final int SEEM = 2;
    private static final int PASSED = 3;

    private static final int LAW_BYTES = 60;
    private static final int LETTERS = 9;
    private static final int B = 0;
    private static final int S = 1;
    private static final int P = 2;
    private static final int T = 3;
    private static final int A = 4;
    private static final int W = 5;
    private static final int N = 6;
    private static final int O = 7;
    private static final int C = 8;
    private static final char[] LETTER_SIGNS = {'b', 's', 'p', 't', 'a', 'w', 'n', 'o', 'c'};
    private static final int[] LETTER_MOST = {2, 1, 99, 99, 99, 1, 2, 2, 9};
    private static final int[] LETTER_FIRST = {1, 1, 10, 0, 10, 1, 0, 1, 1};

    private static final int WHY_WELL = 20;
    private static final int WHY_SELF = 30;

    private static final int COUNTING_OPEN = 6;
    private static final int MOST_WAYS = 64;
    private static final int MOST_LETTER_LIMIT = 500;
    /** In the order in which a LETTER is sought: fewest SORTS, then least as bits. */
    private static final int[] SORT_SETS = {1, 2, 4, 8, 3, 5, 6, 9, 10, 12, 7, 11, 13, 14, 15};

    private static final int BYTES = 0;
    private static final int SHORTS = 1;
    private static final int INTS = 2;
    private static final int LEAST_INT = -2147483648;

    private static final int NULL_FINDING = 1;
    private static final int INDEX_FINDING = 2;
    private static final int CAST_FINDING = 3;
    private static final int STORE_FINDING = 4;
    private static final int SIZE_FINDING = 5;

    private final int[] purses = new int[PERSONS];
    private final Leave[] leaves = new Leave[LEAVES];
    private final Back[] backs = new Back[BACKS];
    private final Bargain[] bargains = new Bargain[BARGAINS];
    private final After[] afters = new After[AFTERS];
    private final Law[] laws = new Law[LAWS];
    private final Sheet[] sheets = new Sheet[SHEETS];
    private int leaveCount;
    private int backCount;
    private int bargainCount;
    private int afterCount;
    private int latestFinding;

    // Rows that calls fill anew each time, so that no call makes objects.
    private final int[] endPurses = new int[PERSONS];
    private final int[] endLost = new int[BARGAINS];
    private final int[] mixedWords = new int[LETTERS];
    private final int[] openBacks = new int[COUNTING_OPEN];
    private final int[] boundByWay = new int[MOST_WAYS];
    private int openCount;

    /** A LEAVE; more is the THIRD of a SEEM; root is NONE but for a PASSED one. */
    private static final class Leave {
        int form;
        int giver;
        int holder;
        int more;
        int sorts;
        int limit;
        int first;
        int last;
        int root;
        int passes;
    }

    /** A BACK: of a LEAVE by its number; hearing is a DAY, NEVER or OPEN. */
    private static final class Back {
        int leave;
        int sent;
        int person;
        int hearing;
    }

    private static final class Bargain {
        int number;
        int doer;
        int named;
        int other;
        int sort;
        int worth;
        int day;

        boolean isForAnother() {
            return named != NONE && named != doer;
        }
    }

    private static final class After {
        int bargain;
        int person;
        int day;
        int well;
        int much;
    }

    /** A LAW's text and what it says; the words are the letters' numbers. */
    private static final class Law {
        final int[] bytes = new int[LAW_BYTES];
        final int[] words = new int[LETTERS];
        int size;
        int faultPlace;

        Law() {
            understand();
        }

        void append(int b) {
            if (size < LAW_BYTES) {
                bytes[size] = b;
                size++;
                understand();
            }
        }

        void clear() {
            size = 0;
            understand();
        }

        private void understand() {
            forgetParts();
            faultPlace = size == 0 ? NONE : takeParts();
            if (faultPlace != NONE) {
                forgetParts();
            }
        }

        private void forgetParts() {
            System.arraycopy(LETTER_FIRST, 0, words, 0, LETTERS);
        }

        /** Answers the FAULT, or NONE. */
        private int takeParts() {
            int at = 0;
            for (int part = 0; part < LAW_BYTES && at <= size; part++) {
                int letter = letterOf(signAt(at));
                if (letter == NONE) {
                    return at;
                }
                if (signAt(at + 1) != '=') {
                    return at + 1;
                }
                int figures = figuresFrom(at + 2);
                if (figures == 0 || numberFrom(at + 2, figures) > LETTER_MOST[letter]) {
                    return at + 2;
                }
                words[letter] = numberFrom(at + 2, figures);
                at += 2 + figures;
                if (at >= size) {
                    return NONE;
                }
                if (signAt(at) != ';') {
                    return at;
                }
                at++;
            }
            return at;
        }

        private int signAt(int at) {
            return at >= 0 && at < size && at < LAW_BYTES ? bytes[at] : NONE;
        }

        private static int letterOf(int sign) {
            for (int i = 0; i < LETTERS; i++) {
                if (LETTER_SIGNS[i] == sign) {
                    return i;
                }
            }
            return NONE;
        }

        private boolean isFigureAt(int at) {
            int sign = signAt(at);
            return sign >= '0' && sign <= '9';
        }

        private int figuresFrom(int at) {
            if (!isFigureAt(at)) {
                return 0;
            }
            return isFigureAt(at + 1) ? 2 : 1;
        }

        private int numberFrom(int at, int figures) {
            int number = 0;
            for (int i = 0; i < figures; i++) {
                number = number * 10 + signAt(at + i) - '0';
            }
            return number;
        }
    }

    /** A SHEET; its row stands ready, so that a new one makes no object. */
    private static final class Sheet {
        final int[] items = new int[SHEET_ITEMS];
        boolean isLost = true;
        int kind;
        int size;

        void renew(int newKind, int n) {
            isLost = false;
            kind = newKind;
            size = n;
            for (int i = 0; i < SHEET_ITEMS; i++) {
                items[i] = 0;
            }
        }

        boolean has(int i) {
            return i >= 0 && i < size && i < SHEET_ITEMS;
        }

        boolean hasRow(int i, int n) {
            return i >= 0 && n >= 0 && i <= size && n <= size - i;
        }

        int itemAt(int i) {
            return has(i) ? items[i] : 0;
        }

        void put(int i, int v) {
            if (has(i)) {
                items[i] = lowestBits(v);
            }
        }

        private int lowestBits(int v) {
            if (kind == BYTES) {
                return (byte) v;
            }
            return kind == SHORTS ? (short) v : v;
        }
    }

    public WhoseName() {
        for (int i = 0; i < PERSONS; i++) {
            purses[i] = FIRST_PURSE;
        }
        for (int i = 0; i < LEAVES; i++) {
            leaves[i] = new Leave();
        }
        for (int i = 0; i < BACKS; i++) {
            backs[i] = new Back();
        }
        for (int i = 0; i < BARGAINS; i++) {
            bargains[i] = new Bargain();
        }
        for (int i = 0; i < AFTERS; i++) {
            afters[i] = new After();
        }
        for (int i = 0; i < LAWS; i++) {
            laws[i] = new Law();
        }
        for (int i = 0; i < SHEETS; i++) {
            sheets[i] = new Sheet();
        }
    }

    // ---- leaves, backs, bargains, afters

    public int purse(int person, int v) {
        if (!isPerson(person) || !isWithin(v, 0, MOST_PURSE)) {
            return BAD;
        }
        int was = purses[person];
        purses[person] = v;
        return was;
    }

    public int leave(int form, int from, int holder, int more, int sorts, int limit, int first, int last) {
        if (!mayBeGiven(form, from, holder, more) || !isScope(sorts, limit, first, last)) {
            return BAD;
        }
        if (leaveCount >= LEAVES) {
            return FULL;
        }
        Leave told = leaves[leaveCount];
        told.form = form;
        told.holder = holder;
        told.more = more;
        told.sorts = sorts;
        told.limit = limit;
        told.first = first;
        told.last = last;
        setSource(told, from);
        leaveCount++;
        return leaveCount - 1;
    }

    private void setSource(Leave told, int from) {
        if (told.form == PASSED && isLeave(from)) {
            told.giver = leaves[from].giver;
            told.root = from;
            told.passes = leaves[from].passes + 1;
        } else {
            told.giver = from;
            told.root = NONE;
            told.passes = 0;
        }
    }

    private boolean mayBeGiven(int form, int from, int holder, int more) {
        if (!isPerson(holder)) {
            return false;
        }
        if (form == PASSED) {
            return mayBePassed(from) && leaves[from].holder != holder && isFlag(more);
        }
        if (!isPerson(from) || from == holder) {
            return false;
        }
        switch (form) {
            case WORD:
                return isFlag(more);
            case POST:
                return more == 0;
            case SEEM:
                return isPerson(more) && more != from && more != holder;
            default:
                return false;
        }
    }

    private boolean mayBePassed(int leave) {
        if (!isLeave(leave)) {
            return false;
        }
        Leave root = leaves[leave];
        return (root.form == WORD || root.form == PASSED) && root.more == 1;
    }

    private static boolean isScope(int sorts, int limit, int first, int last) {
        return isWithin(sorts, 1, ALL_SORTS) && isAmount(limit) && isDay(first) && isDay(last) && first <= last;
    }

    public int back(int leave, int sent, int person, int heard) {
        if (!isLeave(leave) || !isDay(sent) || !isPerson(person)) {
            return BAD;
        }
        if (heard != OPEN && !isWithin(heard, sent, NEVER)) {
            return BAD;
        }
        if (backCount >= BACKS) {
            return FULL;
        }
        Back told = backs[backCount];
        told.leave = leave;
        told.sent = sent;
        told.person = person;
        told.hearing = heard;
        backCount++;
        return backCount - 1;
    }

    public int heard(int back, int day) {
        if (!isBack(back) || !isWithin(day, backs[back].sent, NEVER)) {
            return BAD;
        }
        if (backs[back].hearing != OPEN) {
            return NOT;
        }
        backs[back].hearing = day;
        return 1;
    }

    public int bargain(int doer, int named, int other, int sort, int worth, int day) {
        if (!isPerson(doer) || !isPerson(other) || (named != NONE && !isPerson(named))) {
            return BAD;
        }
        if (other == doer || other == named) {
            return BAD;
        }
        if (!isWithin(sort, 0, SORTS - 1) || !isAmount(worth) || !isDay(day)) {
            return BAD;
        }
        if (bargainCount >= BARGAINS) {
            return FULL;
        }
        Bargain told = bargains[bargainCount];
        told.number = bargainCount;
        told.doer = doer;
        told.named = named;
        told.other = other;
        told.sort = sort;
        told.worth = worth;
        told.day = day;
        bargainCount++;
        return bargainCount - 1;
    }

    public int read(int s) {
        if (!isSheet(s)) {
            return BAD;
        }
        Sheet from = sheets[s];
        if (from.isLost) {
            return find(NULL_FINDING);
        }
        int taken = 0;
        for (int at = 0; at + BARGAIN_ITEMS <= from.size; at += BARGAIN_ITEMS) {
            int number = bargain(from.itemAt(at), from.itemAt(at + 1), from.itemAt(at + 2),
                    from.itemAt(at + 3), from.itemAt(at + 4), from.itemAt(at + 5));
            if (number < 0) {
                break;
            }
            taken++;
        }
        return taken;
    }

    public int after(int bargain, int person, int day, int well, int much) {
        if (!isBargain(bargain) || !isPerson(person) || !isWithin(day, bargains[bargain].day, LAST_DAY)) {
            return BAD;
        }
        if (!isFlag(well) || !isAmount(much)) {
            return BAD;
        }
        if (afterCount >= AFTERS) {
            return FULL;
        }
        After told = afters[afterCount];
        told.bargain = bargain;
        told.person = person;
        told.day = day;
        told.well = well;
        told.much = much;
        afterCount++;
        return afterCount - 1;
    }

    public int leaveIs(int leave, int what) {
        if (!isLeave(leave)) {
            return BAD;
        }
        Leave told = leaves[leave];
        switch (what) {
            case 0: return told.form;
            case 1: return told.giver;
            case 2: return told.holder;
            case 3: return told.more;
            case 4: return told.sorts;
            case 5: return told.limit;
            case 6: return told.first;
            case 7: return told.last;
            case 8: return told.root;
            case 9: return told.passes;
            default: return BAD;
        }
    }

    public int bargainIs(int bargain, int what) {
        if (!isBargain(bargain)) {
            return BAD;
        }
        Bargain told = bargains[bargain];
        switch (what) {
            case 0: return told.doer;
            case 1: return told.named;
            case 2: return told.other;
            case 3: return told.sort;
            case 4: return told.worth;
            case 5: return told.day;
            default: return BAD;
        }
    }

    // ---- laws

    public int type(int law, int b) {
        if (!isLaw(law) || !isWithin(b, 0, 255)) {
            return BAD;
        }
        if (laws[law].size >= LAW_BYTES) {
            return FULL;
        }
        laws[law].append(b);
        return laws[law].size;
    }

    public int wipe(int law) {
        if (!isLaw(law)) {
            return BAD;
        }
        int was = laws[law].size;
        laws[law].clear();
        return was;
    }

    public int fault(int law) {
        return isLaw(law) ? laws[law].faultPlace : BAD;
    }

    public int law(int law, int which) {
        if (!isLaw(law) || !isWithin(which, 0, LETTERS - 1)) {
            return BAD;
        }
        return laws[law].words[which];
    }

    // ---- bound

    public int reaches(int law, int leave, int bargain, int what) {
        if (!isLaw(law) || !isLeave(leave) || !isBargain(bargain) || !isFlag(what)) {
            return BAD;
        }
        int[] words = laws[law].words;
        Bargain made = bargains[bargain];
        boolean is = what == 0 ? reachesIn(words, leave, made, 0) : isEnded(words, leave, made, 0);
        return is ? 1 : 0;
    }

    public int bound(int law, int bargain, int what) {
        if (!isLaw(law) || !isBargain(bargain) || !isFlag(what)) {
            return BAD;
        }
        int[] words = laws[law].words;
        return what == 0 ? boundBits(words, bargains[bargain], 0) : reasonIn(words, bargains[bargain], 0);
    }

    public int till(int law, int bargain) {
        if (!isLaw(law) || !isBargain(bargain)) {
            return BAD;
        }
        if (!bargains[bargain].isForAnother()) {
            return NOT;
        }
        return Math.min(LAST_DAY, bargains[bargain].day + laws[law].words[A]);
    }

    /** A way has a bit for each OPEN BACK that is taken as HEARD on the DAY it was SENT. */
    private int hearingDay(int back, int way) {
        Back told = backs[back];
        if (told.hearing != OPEN) {
            return told.hearing;
        }
        return (way & 1 << back) != 0 ? told.sent : NEVER;
    }

    private boolean isEnded(int[] words, int leave, Bargain made, int way) {
        boolean bySending = leaves[leave].form != SEEM && words[B] == 0;
        int hearer = hearerOf(words, leaves[leave], made);
        for (int i = 0; i < backCount; i++) {
            if (backs[i].leave != leave) {
                continue;
            }
            if (bySending ? backs[i].sent <= made.day
                    : backs[i].person == hearer && hearingDay(i, way) <= made.day) {
                return true;
            }
        }
        return false;
    }

    /** Whose hearing ends a LEAVE, where it is not the sending that does. */
    private static int hearerOf(int[] words, Leave told, Bargain made) {
        if (told.form == SEEM) {
            return told.more;
        }
        return words[B] == 2 ? made.other : told.holder;
    }

    private static int limitOf(int[] words, Leave told) {
        return told.form == POST ? 10 * words[P] : told.limit;
    }

    private static int stretched(int[] words, int limit) {
        return limit + limit * words[T] / 100;
    }

    private static boolean hasRoomFor(int[] words, Leave told, Bargain made) {
        return isWithin(made.day, told.first, told.last)
                && (told.form == POST || hasBit(told.sorts, made.sort))
                && made.worth <= stretched(words, limitOf(words, told));
    }

    private static boolean isAimedAt(int[] words, Leave told, Bargain made) {
        if (told.holder != made.doer) {
            return false;
        }
        if (told.form == SEEM) {
            return made.named == told.giver && words[S] == 1 && made.other == told.more;
        }
        return made.named == told.giver || made.named == NONE;
    }

    private boolean reachesIn(int[] words, int leave, Bargain made, int way) {
        Leave told = leaves[leave];
        if (!isAimedAt(words, told, made) || told.passes > words[C]) {
            return false;
        }
        // Every ROOT behind it must have room, too, and not be ENDED.
        int at = leave;
        for (int step = 0; step < LEAVES && isLeave(at); step++) {
            if (!hasRoomFor(words, leaves[at], made) || isEnded(words, at, made, way)) {
                return false;
            }
            at = leaves[at].root;
        }
        return true;
    }

    private boolean isWell(int[] words, Bargain made) {
        for (int i = 0; i < afterCount; i++) {
            After said = afters[i];
            if (isSaidByNamed(said, made) && said.well == 1
                    && said.day <= made.day + words[A]
                    && (words[W] == 0 || said.much >= made.worth)
                    && !wasRefusedAhead(i, made)) {
                return true;
            }
        }
        return false;
    }

    private static boolean isSaidByNamed(After said, Bargain made) {
        return said.bargain == made.number && said.person == made.named;
    }

    private boolean wasRefusedAhead(int after, Bargain made) {
        int day = afters[after].day;
        for (int i = 0; i < afterCount; i++) {
            After said = afters[i];
            boolean isAhead = said.day < day || (said.day == day && i < after);
            if (isAhead && said.well == 0 && isSaidByNamed(said, made)) {
                return true;
            }
        }
        return false;
    }

    /** WHY. */
    private int reasonIn(int[] words, Bargain made, int way) {
        if (made.named == made.doer) {
            return WHY_SELF;
        }
        for (int i = 0; i < leaveCount; i++) {
            if (reachesIn(words, i, made, way)) {
                return i;
            }
        }
        if (made.named == NONE) {
            return WHY_SELF;
        }
        return isWell(words, made) ? WHY_WELL : NONE;
    }

    private int boundBits(int[] words, Bargain made, int way) {
        return bitsOfReason(words, made, reasonIn(words, made, way));
    }

    private int bitsOfReason(int[] words, Bargain made, int why) {
        if (why == NONE) {
            return 0;
        }
        if (why == WHY_SELF) {
            return 1 << made.doer;
        }
        if (made.named != NONE) {
            return 1 << made.named;
        }
        int giver = isLeave(why) ? 1 << leaves[why].giver : 0;
        switch (words[N]) {
            case 0: return 1 << made.doer;
            case 1: return giver;
            default: return giver | 1 << made.doer;
        }
    }

    // ---- what is asked

    public int ask(int law, int bargain, int person) {
        if (!isLaw(law) || !isBargain(bargain) || !isPerson(person)) {
            return BAD;
        }
        int[] words = laws[law].words;
        Bargain made = bargains[bargain];
        return askOf(words, made, boundBits(words, made, 0), person);
    }

    public int owes(int law, int bargain) {
        if (!isLaw(law) || !isBargain(bargain)) {
            return BAD;
        }
        int[] words = laws[law].words;
        return owedBy(words, bargains[bargain], reasonIn(words, bargains[bargain], 0));
    }

    public int end(int law, int which, int k) {
        if (!isLaw(law) || !isFlag(which)) {
            return BAD;
        }
        if (which == 0 ? !isPerson(k) : !isBargain(k)) {
            return BAD;
        }
        settle(laws[law].words);
        return which == 0 ? endPurses[k] : endLost[k];
    }

    private static int askOf(int[] words, Bargain made, int bits, int person) {
        if (hasBit(bits, person)) {
            return made.worth;
        }
        if (bits != 0 || person != made.doer) {
            return 0;
        }
        switch (words[O]) {
            case 0: return 0;
            case 1: return made.worth;
            default: return made.worth + made.worth / 10;
        }
    }

    private int owedBy(int[] words, Bargain made, int why) {
        int bits = bitsOfReason(words, made, why);
        if (!isLeave(why) || (bits & ~(1 << made.doer)) == 0) {
            return 0;
        }
        Leave by = leaves[why];
        if (by.form == SEEM) {
            return made.worth;
        }
        return Math.max(0, made.worth - limitOf(words, by));
    }

    private void settle(int[] words) {
        System.arraycopy(purses, 0, endPurses, 0, PERSONS);
        for (int i = 0; i < bargainCount; i++) {
            settleBargain(words, bargains[i]);
        }
    }

    private void settleBargain(int[] words, Bargain made) {
        int why = reasonIn(words, made, 0);
        int bits = bitsOfReason(words, made, why);
        int due = 0;
        for (int i = 0; i < PERSONS; i++) {
            due = Math.max(due, askOf(words, made, bits, i));
        }
        int byOthers = 0;
        for (int i = 0; i < PERSONS; i++) {
            if (i != made.doer) {
                byOthers += pay(i, made.other, Math.min(due - byOthers, askOf(words, made, bits, i)));
            }
        }
        int rest = due - byOthers;
        int byDoer = pay(made.doer, made.other, Math.min(rest, askOf(words, made, bits, made.doer)));
        endLost[made.number] = rest - byDoer;
        // The DOER makes good what the one that it bound has paid, not what it paid itself.
        int owed = Math.min(owedBy(words, made, why), byOthers);
        int creditor = leastPerson(bits & ~(1 << made.doer));
        if (creditor != NONE) {
            pay(made.doer, creditor, owed);
        }
    }

    /** Pays as much of an amount as the payer's PURSE has: how much. */
    private int pay(int payer, int payee, int amount) {
        int paid = Math.min(amount, endPurses[payer]);
        endPurses[payer] -= paid;
        endPurses[payee] += paid;
        return paid;
    }

    // ---- what is open, what turns

    public int sure(int law, int bargain, int person) {
        if (!isLaw(law) || !isBargain(bargain) || !isPerson(person)) {
            return BAD;
        }
        int ways = tryWays(laws[law].words, bargains[bargain]);
        int inWays = 0;
        for (int i = 0; i < ways; i++) {
            if (hasBit(boundByWay[i], person)) {
                inWays++;
            }
        }
        if (inWays == 0) {
            return 0;
        }
        return inWays == ways ? 2 : 1;
    }

    public int hangs(int law, int bargain, int back) {
        if (!isLaw(law) || !isBargain(bargain) || !isBack(back)) {
            return BAD;
        }
        findOpenBacks();
        for (int i = 0; i < openCount; i++) {
            if (openBacks[i] == back) {
                int ways = tryWays(laws[law].words, bargains[bargain]);
                return isTurnedBy(i, ways) ? 1 : 0;
            }
        }
        return BAD;
    }

    /** The fewest that settle all are just those, each of which turns something. */
    public int wanted(int law, int bargain) {
        if (!isLaw(law) || !isBargain(bargain)) {
            return BAD;
        }
        int ways = tryWays(laws[law].words, bargains[bargain]);
        int bits = 0;
        for (int i = 0; i < openCount; i++) {
            if (isTurnedBy(i, ways)) {
                bits |= 1 << openBacks[i];
            }
        }
        return bits;
    }

    public int turned(int bargain) {
        return isBargain(bargain) ? fewestLetters(bargains[bargain]) : BAD;
    }

    public int letter(int from, int holder, int set, int what) {
        if (!isPerson(from) || !isPerson(holder) || from == holder || !isFlag(what)) {
            return BAD;
        }
        int between = bargainsBetween(from, holder);
        if ((set & ~between) != 0) {
            return BAD;
        }
        int bound0 = boundAlready(laws[0].words, between);
        int bound1 = boundAlready(laws[1].words, between);
        if (((bound0 | bound1) & ~set) != 0) {
            return NONE;
        }
        for (int i = 0; i < SORT_SETS.length; i++) {
            for (int limit = 0; limit <= MOST_LETTER_LIMIT; limit += 10) {
                if ((bound0 | reachedByLetter(0, between, SORT_SETS[i], limit)) == set
                        && (bound1 | reachedByLetter(1, between, SORT_SETS[i], limit)) == set) {
                    return what == 0 ? SORT_SETS[i] : limit;
                }
            }
        }
        return NONE;
    }

    private void findOpenBacks() {
        openCount = 0;
        for (int i = 0; i < backCount && openCount < COUNTING_OPEN; i++) {
            if (backs[i].hearing == OPEN) {
                openBacks[openCount] = i;
                openCount++;
            }
        }
    }

    /** Fills boundByWay; a bit of its index is for the OPEN BACK of that place. How many WAYS. */
    private int tryWays(int[] words, Bargain made) {
        findOpenBacks();
        int ways = 1 << openCount;
        for (int i = 0; i < ways && i < MOST_WAYS; i++) {
            boundByWay[i] = boundBits(words, made, wayOf(i));
        }
        return ways;
    }

    private int wayOf(int index) {
        int way = 0;
        for (int i = 0; i < openCount; i++) {
            if (hasBit(index, i)) {
                way |= 1 << openBacks[i];
            }
        }
        return way;
    }

    private boolean isTurnedBy(int place, int ways) {
        for (int i = 0; i < ways && i < MOST_WAYS; i++) {
            int across = i ^ (1 << place);
            if (across < MOST_WAYS && boundByWay[i] != boundByWay[across]) {
                return true;
            }
        }
        return false;
    }

    private int fewestLetters(Bargain made) {
        int due = boundBits(laws[1].words, made, 0);
        int unlike = unlikeLetters();
        for (int many = 0; many <= LETTERS; many++) {
            for (int set = 0; set < 1 << LETTERS; set++) {
                if ((set & ~unlike) != 0 || Integer.bitCount(set) != many) {
                    continue;
                }
                mixLaws(set);
                if (boundBits(mixedWords, made, 0) == due) {
                    return set;
                }
            }
        }
        return unlike;
    }

    private int unlikeLetters() {
        int bits = 0;
        for (int i = 0; i < LETTERS; i++) {
            if (laws[0].words[i] != laws[1].words[i]) {
                bits |= 1 << i;
            }
        }
        return bits;
    }

    /** LAW 0 with the letters of a set as in LAW 1. */
    private void mixLaws(int set) {
        for (int i = 0; i < LETTERS; i++) {
            mixedWords[i] = laws[hasBit(set, i) ? 1 : 0].words[i];
        }
    }

    private int bargainsBetween(int named, int doer) {
        int bits = 0;
        for (int i = 0; i < bargainCount; i++) {
            if (bargains[i].doer == doer && bargains[i].named == named) {
                bits |= 1 << i;
            }
        }
        return bits;
    }

    private int boundAlready(int[] words, int between) {
        int bits = 0;
        for (int i = 0; i < bargainCount; i++) {
            if (hasBit(between, i) && boundBits(words, bargains[i], 0) != 0) {
                bits |= 1 << i;
            }
        }
        return bits;
    }

    private int reachedByLetter(int law, int between, int sorts, int limit) {
        int most = stretched(laws[law].words, limit);
        int bits = 0;
        for (int i = 0; i < bargainCount; i++) {
            if (hasBit(between, i) && hasBit(sorts, bargains[i].sort) && bargains[i].worth <= most) {
                bits |= 1 << i;
            }
        }
        return bits;
    }

    // ---- sheets

    public int sheet(int s, int type, int n) {
        if (!isSheet(s) || !isKind(type) || n > SHEET_ITEMS) {
            return BAD;
        }
        if (n < 0) {
            return find(SIZE_FINDING);
        }
        sheets[s].renew(type, n);
        return n;
    }

    public int lose(int s) {
        if (!isSheet(s)) {
            return BAD;
        }
        if (sheets[s].isLost) {
            return find(NULL_FINDING);
        }
        sheets[s].isLost = true;
        return sheets[s].size;
    }

    public int lay(int s, int type, int i, int v) {
        if (!isSheet(s) || !isKind(type)) {
            return BAD;
        }
        int finding = findingAt(sheets[s], type, i);
        if (finding != 0) {
            return find(finding);
        }
        sheets[s].put(i, v);
        return 1;
    }

    public int get(int s, int type, int i) {
        if (!isSheet(s) || !isKind(type)) {
            return LEAST_INT;
        }
        int finding = findingAt(sheets[s], type, i);
        if (finding != 0) {
            find(finding);
            return LEAST_INT;
        }
        return sheets[s].itemAt(i);
    }

    public int copy(int s, int i, int t, int j, int n) {
        if (!isSheet(s) || !isSheet(t)) {
            return BAD;
        }
        Sheet from = sheets[s];
        Sheet to = sheets[t];
        if (from.isLost || to.isLost) {
            return find(NULL_FINDING);
        }
        if (from.kind != to.kind) {
            return find(STORE_FINDING);
        }
        if (!from.hasRow(i, n) || !to.hasRow(j, n)) {
            return find(INDEX_FINDING);
        }
        System.arraycopy(from.items, i, to.items, j, n);
        return 1;
    }

    public int write(int law, int s) {
        if (!isLaw(law) || !isSheet(s)) {
            return BAD;
        }
        Sheet to = sheets[s];
        if (to.isLost) {
            return find(NULL_FINDING);
        }
        settle(laws[law].words);
        int n = Math.min(to.size, PERSONS);
        for (int i = 0; i < n; i++) {
            to.put(i, endPurses[i]);
        }
        return n;
    }

    public int count(int what) {
        switch (what) {
            case 0: return leaveCount;
            case 1: return backCount;
            case 2: return allOpen();
            case 3: return bargainCount;
            case 4: return afterCount;
            case 5: return laws[0].size;
            case 6: return laws[1].size;
            case 7: return allPurses();
            case 8: return latestFinding;
            default: return BAD;
        }
    }

    public long digest() {
        long h = 17;
        for (int i = 0; i <= 7; i++) {
            h = 31 * h + count(i);
        }
        for (int i = 0; i < LAWS; i++) {
            h = digestLaw(h, laws[i]);
        }
        settle(laws[0].words);
        for (int i = 0; i < PERSONS; i++) {
            h = 31 * h + endPurses[i];
        }
        for (int i = 0; i < bargainCount; i++) {
            h = 31 * h + endLost[i];
            h = 31 * h + fewestLetters(bargains[i]);
        }
        return h;
    }

    private long digestLaw(long before, Law law) {
        long h = 31 * before + law.faultPlace;
        for (int i = 0; i < LETTERS; i++) {
            h = 31 * h + law.words[i];
        }
        for (int i = 0; i < bargainCount; i++) {
            int why = reasonIn(law.words, bargains[i], 0);
            h = 31 * h + bitsOfReason(law.words, bargains[i], why);
            h = 31 * h + why;
            h = 31 * h + owedBy(law.words, bargains[i], why);
        }
        return h;
    }

    private int allOpen() {
        int n = 0;
        for (int i = 0; i < backCount; i++) {
            if (backs[i].hearing == OPEN) {
                n++;
            }
        }
        return n;
    }

    private int allPurses() {
        int all = 0;
        for (int i = 0; i < PERSONS; i++) {
            all += purses[i];
        }
        return all;
    }

    /** The FINDING that an item so treated meets; 0: none. */
    private static int findingAt(Sheet sheet, int kind, int i) {
        if (sheet.isLost) {
            return NULL_FINDING;
        }
        if (sheet.kind != kind) {
            return CAST_FINDING;
        }
        return sheet.has(i) ? 0 : INDEX_FINDING;
    }

    private int find(int finding) {
        latestFinding = finding;
        return -10 - finding;
    }

    // ---- what a number may be

    private static boolean isWithin(int v, int least, int most) {
        return v >= least && v <= most;
    }

    private static boolean isFlag(int v) {
        return v == 0 || v == 1;
    }

    private static boolean isPerson(int v) {
        return isWithin(v, 0, PERSONS - 1);
    }

    private static boolean isDay(int v) {
        return isWithin(v, 0, LAST_DAY);
    }

    private static boolean isAmount(int v) {
        return isWithin(v, 0, MOST_AMOUNT);
    }

    private static boolean isLaw(int v) {
        return isWithin(v, 0, LAWS - 1);
    }

    private static boolean isSheet(int v) {
        return isWithin(v, 0, SHEETS - 1);
    }

    private static boolean isKind(int v) {
        return isWithin(v, BYTES, INTS);
    }

    private boolean isLeave(int v) {
        return isWithin(v, 0, leaveCount - 1);
    }

    private boolean isBack(int v) {
        return isWithin(v, 0, backCount - 1);
    }

    private boolean isBargain(int v) {
        return isWithin(v, 0, bargainCount - 1);
    }

    private static boolean hasBit(int bits, int i) {
        return (bits >> i & 1) != 0;
    }

    private static int leastPerson(int bits) {
        for (int i = 0; i < PERSONS; i++) {
            if (hasBit(bits, i)) {
                return i;
            }
        }
        return NONE;
    }
}
