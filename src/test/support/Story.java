import java.io.IOException;
import java.lang.reflect.InvocationTargetException;
import java.lang.reflect.Method;
import java.nio.file.Files;
import java.nio.file.Path;
import java.util.ArrayList;
import java.util.Arrays;
import java.util.HashMap;
import java.util.List;
import java.util.Map;

/**
 * A run of calls on a new object. It can be told again on another new one, so
 * that what a refused call left behind shows: everything that can be asked is
 * asked of an object that met the call and of one that did not.
 */
final class Story {
    static final int NONE = -1, BAD = -2, NOT = -3, FULL = -4;
    static final int NULL = -11, INDEX = -12, CAST = -13, STORE = -14, SIZE = -15;
    static final int LEAST = Integer.MIN_VALUE, MOST = Integer.MAX_VALUE;
    /** The document promises nothing behind this call. */
    static final int MOST_CALLS = 512;

    private static final Path DOCUMENT = Path.of("..", "shared", "DOC.md");
    private static final int LATEST_FINDING = 8;
    private static final long THREW = Long.MIN_VALUE;
    private static final Map<String, Method> FACE = new HashMap<>();
    private static String document;
    private static String sentence = "";
    private static int sentences = 0;
    private static int checks = 0;
    private static int wrong = 0;

    private record Call(String name, int[] args) {
        @Override public String toString() {
            String row = Arrays.toString(args);
            return name + "(" + row.substring(1, row.length() - 1) + ")";
        }
    }

    private final List<Call> acts = new ArrayList<>();
    private WhoseName live = new WhoseName();
    private int used = 0;
    private long[] standing = null;

    static {
        for (Method m : WhoseName.class.getMethods()) {
            if (m.getDeclaringClass() == WhoseName.class) {
                FACE.put(m.getName(), m);
            }
        }
    }

    /** What is tested next: words that must stand in the document. */
    static void sentence(String words) {
        sentence = words;
        sentences++;
        if (document == null) {
            document = documentText();
        }
        if (!document.isEmpty() && !document.contains(words)) {
            wrong++;
            System.out.println("the document does not say: " + words);
        }
    }

    private static String documentText() {
        try {
            return Files.exists(DOCUMENT) ? Files.readString(DOCUMENT).replaceAll("\\s+", " ") : "";
        } catch (IOException e) {
            return "";
        }
    }

    static void check(String what, long got, long want) {
        checks++;
        if (got != want) {
            wrong++;
            System.out.println("\"" + sentence + "\": " + what + " answered " + got + ", due is " + want);
        }
    }

    static void conclude() {
        System.out.println(wrong == 0 ? checks + " answers to " + sentences + " sentences are as due"
                : wrong + " of " + checks + " answers are not as due");
        if (wrong != 0) {
            System.exit(1);
        }
    }

    /** A bit of everything, so that whatever a refused call might spoil is there. */
    static Story world() {
        return new Story()
                .does(0, "leave", 0, 0, 1, 1, 15, 100, 0, 99)
                .does(1, "leave", 1, 2, 1, 0, 1, 5, 0, 99)
                .does(2, "leave", 2, 5, 1, 3, 3, 80, 0, 99)
                .does(3, "leave", 3, 0, 4, 1, 7, 90, 10, 90)
                .does(0, "back", 0, 40, 1, -1)
                .does(1, "back", 2, 10, 3, 60)
                .does(2, "back", 3, 20, 4, 100)
                .does(0, "bargain", 1, 0, 3, 0, 105, 50)
                .does(1, "bargain", 1, NONE, 3, 1, 90, 20)
                .does(2, "bargain", 4, 0, 6, 2, 90, 30)
                .does(3, "bargain", 1, 5, 3, 0, 80, 59)
                .does(4, "bargain", 2, 2, 7, 3, 999, 0)
                .does(5, "bargain", 6, 7, 0, 1, 40, 50)
                .does(0, "after", 5, 7, 55, 1, 40)
                .does(1, "after", 0, 0, 50, 0, 105)
                .law(0, "t=10;n=2").law(1, "b=2;c=2;o=2;w=0")
                .row(0, 0, 1, -1, 3).row(1, 1, 7, 8, 9, -10).row(2, 2, 1, 0, 3, 0, 50, 10, 4)
                .does(1000, "purse", 6, 30);
    }

    /** The same run once more, on an object of its own. */
    Story again() {
        Story s = new Story();
        s.acts.addAll(acts);
        s.standing = standing;
        s.live = told(s.acts);
        s.used = acts.size();
        return s;
    }

    /** A call that changes something, or may. */
    Story does(long want, String name, int... args) {
        Call call = new Call(name, args);
        check(call.toString(), onLive(call), want);
        acts.add(call);
        standing = null;
        return this;
    }

    Story asks(long want, String name, int... args) {
        Call call = new Call(name, args);
        check(call.toString(), onLive(call), want);
        return this;
    }

    /** A question whose answer is not of interest, but that is not refused. */
    Story takes(String name, int... args) {
        Call call = new Call(name, args);
        long got = onLive(call);
        check(call + " refused: " + got, got == THREW || got <= BAD ? 1 : 0, 0);
        return this;
    }

    /** A call that is refused and changes nothing; a FINDING changes count() 8. */
    Story refuses(long want, String name, int... args) {
        boolean isFinding = want <= NULL && want >= SIZE;
        return refusal(want, isFinding ? (int) (-10 - want) : 0, new Call(name, args));
    }

    /** get() answers the least int to all that it refuses; 0 is no FINDING. */
    Story refusesGet(int finding, int s, int type, int i) {
        return refusal(LEAST, finding == BAD ? 0 : -10 - finding, new Call("get", new int[] {s, type, i}));
    }

    private Story refusal(long want, int finding, Call call) {
        check(call.toString(), onLive(call), want);
        if (standing == null) {
            standing = new Questions(acts).all();
        }
        List<Call> more = new ArrayList<>(acts);
        more.add(call);
        long[] then = new Questions(more).all();
        check("count(8) behind " + call, then[LATEST_FINDING], finding == 0 ? standing[LATEST_FINDING] : finding);
        check("what stands behind " + call, firstUnlike(standing, then), NONE);
        if (finding != 0) {
            acts.add(call);
            standing = then;
        }
        return this;
    }

    private static int firstUnlike(long[] a, long[] b) {
        for (int i = 0; i < Math.max(a.length, b.length); i++) {
            if (i != LATEST_FINDING && (i >= a.length || i >= b.length || a[i] != b[i])) {
                return i;
            }
        }
        return NONE;
    }

    Story law(int law, String text) {
        Call wipe = new Call("wipe", new int[] {law});
        onLive(wipe);
        acts.add(wipe);
        for (int i = 0; i < text.length(); i++) {
            does(i + 1, "type", law, text.charAt(i));
        }
        standing = null;
        return this;
    }

    Story row(int s, int type, int... items) {
        does(items.length, "sheet", s, type, items.length);
        for (int i = 0; i < items.length; i++) {
            does(1, "lay", s, type, i, items[i]);
        }
        return this;
    }

    Story items(int s, int type, int... want) {
        for (int i = 0; i < want.length; i++) {
            asks(want[i], "get", s, type, i);
        }
        return this;
    }

    /**
     * An argument that may be from low to high: at both edges and a step inside
     * the call answers what is due, a step beyond it is BAD.
     */
    Story within(long want, int at, int low, int high, String name, int... args) {
        int[] inside = {low, Math.min(low + 1, high), Math.max(high - 1, low), high};
        for (int v : inside) {
            again().does(want, name, with(args, at, v));
        }
        return beyond(at, low, high, name, args);
    }

    /** The same of a question, whatever it answers. */
    Story asksWithin(int at, int low, int high, String name, int... args) {
        int[] inside = {low, Math.min(low + 1, high), Math.max(high - 1, low), high};
        for (int v : inside) {
            takes(name, with(args, at, v));
        }
        return beyond(at, low, high, name, args);
    }

    Story beyond(int at, int low, int high, String name, int... args) {
        int[] outside = {low - 1, high + 1, LEAST, MOST};
        for (int v : outside) {
            refuses(BAD, name, with(args, at, v));
        }
        return this;
    }

    static int[] with(int[] args, int at, int v) {
        int[] copy = args.clone();
        copy[at] = v;
        return copy;
    }

    private long onLive(Call call) {
        if (used >= MOST_CALLS) {
            live = told(acts);
            used = acts.size();
        }
        used++;
        return answer(live, call);
    }

    private static WhoseName told(List<Call> calls) {
        WhoseName x = new WhoseName();
        for (Call call : calls) {
            answer(x, call);
        }
        return x;
    }

    private static long answer(WhoseName x, Call call) {
        Object[] boxed = new Object[call.args.length];
        for (int i = 0; i < boxed.length; i++) {
            boxed[i] = call.args[i];
        }
        try {
            return ((Number) FACE.get(call.name).invoke(x, boxed)).longValue();
        } catch (InvocationTargetException e) {
            check(call + " threw " + e.getCause(), 1, 0);
            return THREW;
        } catch (IllegalAccessException e) {
            throw new IllegalStateException(e);
        }
    }

    /** Everything that can be asked behind a run of calls, by objects of at most 512 calls. */
    private static final class Questions {
        private final List<Call> calls;
        private final List<Long> answers = new ArrayList<>();
        private WhoseName x;
        private int used;

        Questions(List<Call> calls) {
            this.calls = calls;
        }

        long[] all() {
            x = told(calls);
            used = calls.size();
            for (int i = 0; i <= LATEST_FINDING; i++) {
                ask("count", i);
            }
            whatWasTold();
            for (int law = 0; law < 2; law++) {
                whatFollows(law);
            }
            whatTurns();
            sheets();
            whatIsHidden();
            return answers.stream().mapToLong(Long::longValue).toArray();
        }

        private long ask(String name, int... args) {
            if (used >= MOST_CALLS) {
                anew();
            }
            used++;
            long got = answer(x, new Call(name, args));
            answers.add(got);
            return got;
        }

        /** count() 8 is the same from here on, whatever it was. */
        private void anew() {
            x = told(calls);
            answer(x, new Call("sheet", new int[] {0, 0, -1}));
            used = calls.size() + 1;
        }

        private int count(int what) {
            return (int) ask("count", what);
        }

        private void whatWasTold() {
            int leaves = count(0), bargains = count(3);
            for (int l = 0; l < leaves; l++) {
                for (int what = 0; what < 10; what++) {
                    ask("leaveIs", l, what);
                }
            }
            for (int b = 0; b < bargains; b++) {
                for (int what = 0; what < 6; what++) {
                    ask("bargainIs", b, what);
                }
            }
        }

        private void whatFollows(int law) {
            int backs = count(1), bargains = count(3);
            ask("fault", law);
            for (int i = 0; i < 9; i++) {
                ask("law", law, i);
            }
            for (int b = 0; b < bargains; b++) {
                whoIsBound(law, b);
                ask("owes", law, b);
                ask("till", law, b);
                ask("wanted", law, b);
                ask("end", law, 1, b);
                for (int p = 0; p < 8; p++) {
                    ask("ask", law, b, p);
                    ask("sure", law, b, p);
                }
                for (int k = 0; k < backs; k++) {
                    ask("hangs", law, b, k);
                }
            }
            for (int p = 0; p < 8; p++) {
                ask("end", law, 0, p);
            }
        }

        private void whoIsBound(int law, int b) {
            int leaves = count(0);
            ask("bound", law, b, 0);
            ask("bound", law, b, 1);
            for (int l = 0; l < leaves; l++) {
                ask("reaches", law, l, b, 0);
                ask("reaches", law, l, b, 1);
            }
        }

        private void whatTurns() {
            int bargains = count(3);
            for (int b = 0; b < bargains; b++) {
                ask("turned", b);
            }
            for (int from = 0; from < 8; from++) {
                for (int holder = 0; holder < 8; holder++) {
                    ask("letter", from, holder, 0, 0);
                    ask("letter", from, holder, 0, 1);
                }
            }
            ask("digest");
        }

        private void sheets() {
            for (int s = 0; s < 4; s++) {
                for (int type = 0; type < 3; type++) {
                    anew();
                    for (int i = -1; i < 61; i++) {
                        long got = ask("get", s, type, i);
                        if (got == LEAST && i >= 0 && ask("count", LATEST_FINDING) != 5) {
                            break;
                        }
                    }
                }
                anew();
                ask("lose", s);
            }
        }

        /** SENT and HEARD of BACKS, what AFTERS say, a LAW's room: by acts that bring them to light. */
        private void whatIsHidden() {
            anew();
            int backs = count(1), bargains = count(3);
            for (int k = 0; k < backs; k++) {
                for (int step = 64, day = -1; step > 0; step /= 2) {
                    if (day + step <= 100 && ask("heard", k, day + step) == BAD) {
                        day += step;
                    }
                }
            }
            String[] laws = {"b=0;a=99;w=0;t=99;c=9", "b=1;a=99;p=99", "b=2;a=0;w=0;s=0"};
            for (String text : laws) {
                anew();
                ask("wipe", 0);
                for (int i = 0; i < text.length(); i++) {
                    answer(x, new Call("type", new int[] {0, text.charAt(i)}));
                    used++;
                }
                for (int b = 0; b < bargains && used < MOST_CALLS - 40; b++) {
                    whoIsBound(0, b);
                }
            }
            for (int law = 0; law < 2; law++) {
                anew();
                for (int i = 0; i <= 60 && ask("type", law, ';') >= 0; i++) {
                    ask("fault", law);
                }
            }
        }
    }
}
