import java.util.ArrayList;
import java.util.Arrays;
import java.util.List;
import java.util.Random;

/**
 * Long runs of calls, drawn from fixed seeds, against a second telling of the
 * document that searches by brute force and keeps nothing but what was told.
 */
public final class ModelTest {
    private static final int RUNS = 3000;
    private static final int CALLS = 300;

    /** The document once more, as plainly as can be. */
    private static final class Model {
        final int[] purses = {1000, 1000, 1000, 1000, 1000, 1000, 1000, 1000};
        /** form, from (as told), holder, more, sorts, limit, first, last. */
        final List<int[]> leaves = new ArrayList<>();
        /** leave, sent, person, heard. */
        final List<int[]> backs = new ArrayList<>();
        /** doer, named, other, sort, worth, day. */
        final List<int[]> bargains = new ArrayList<>();
        /** bargain, person, day, well, much. */
        final List<int[]> afters = new ArrayList<>();
        final String[] texts = {"", ""};
        final Object[] sheets = new Object[4];
        int finding = 0;

        static boolean in(int v, int low, int high) {
            return low <= v && v <= high;
        }

        int found(int f) {
            finding = f;
            return -10 - f;
        }

        int purse(int p, int v) {
            if (!in(p, 0, 7) || !in(v, 0, 9999)) return -2;
            int was = purses[p];
            purses[p] = v;
            return was;
        }

        int leave(int... a) {
            int form = a[0], from = a[1], holder = a[2], more = a[3];
            boolean ok = in(form, 0, 3) && in(holder, 0, 7) && in(a[4], 1, 15) && in(a[5], 0, 999)
                    && in(a[6], 0, 99) && in(a[7], a[6], 99);
            if (!ok) return -2;
            int giver;
            if (form == 3) {
                if (!in(from, 0, leaves.size() - 1)) return -2;
                int[] root = leaves.get(from);
                if (root[0] == 1 || root[0] == 2 || root[3] == 0) return -2;
                giver = root[2];
            } else {
                if (!in(from, 0, 7)) return -2;
                giver = from;
            }
            if (giver == holder) return -2;
            if (form == 2 ? !in(more, 0, 7) || more == giver || more == holder : !in(more, 0, form == 1 ? 0 : 1)) return -2;
            if (leaves.size() == 12) return -4;
            leaves.add(a);
            return leaves.size() - 1;
        }

        int back(int... a) {
            boolean ok = in(a[0], 0, leaves.size() - 1) && in(a[1], 0, 99) && in(a[2], 0, 7) && (a[3] == -1 || in(a[3], a[1], 100));
            if (!ok) return -2;
            if (backs.size() == 12) return -4;
            backs.add(a);
            return backs.size() - 1;
        }

        int heard(int k, int day) {
            if (!in(k, 0, backs.size() - 1) || !in(day, backs.get(k)[1], 100)) return -2;
            if (backs.get(k)[3] != -1) return -3;
            backs.get(k)[3] = day;
            return 1;
        }

        int bargain(int... a) {
            boolean ok = in(a[0], 0, 7) && in(a[1], -1, 7) && in(a[2], 0, 7) && a[2] != a[0] && a[2] != a[1]
                    && in(a[3], 0, 3) && in(a[4], 0, 999) && in(a[5], 0, 99);
            if (!ok) return -2;
            if (bargains.size() == 10) return -4;
            bargains.add(a);
            return bargains.size() - 1;
        }

        int length(int s) {
            Object row = sheets[s];
            return row instanceof byte[] b ? b.length : row instanceof short[] t ? t.length : ((int[]) row).length;
        }

        int item(int s, int i) {
            Object row = sheets[s];
            return row instanceof byte[] b ? b[i] : row instanceof short[] t ? t[i] : ((int[]) row)[i];
        }

        void put(int s, int i, int v) {
            Object row = sheets[s];
            if (row instanceof byte[] b) b[i] = (byte) v;
            else if (row instanceof short[] t) t[i] = (short) v;
            else ((int[]) row)[i] = v;
        }

        int kind(int s) {
            return sheets[s] instanceof byte[] ? 0 : sheets[s] instanceof short[] ? 1 : 2;
        }

        int read(int s) {
            if (!in(s, 0, 3)) return -2;
            if (sheets[s] == null) return found(1);
            int n = 0;
            for (int k = 0; k < length(s) / 6; k++) {
                int[] a = new int[6];
                for (int i = 0; i < 6; i++) a[i] = item(s, 6 * k + i);
                if (bargain(a) < 0) break;
                n++;
            }
            return n;
        }

        int after(int... a) {
            boolean ok = in(a[0], 0, bargains.size() - 1) && in(a[1], 0, 7) && in(a[2], bargains.get(a[0])[5], 99)
                    && in(a[3], 0, 1) && in(a[4], 0, 999);
            if (!ok) return -2;
            if (afters.size() == 12) return -4;
            afters.add(a);
            return afters.size() - 1;
        }

        int giver(int l) {
            int[] a = leaves.get(l);
            return a[0] == 3 ? giver(a[1]) : a[1];
        }

        int passes(int l) {
            int[] a = leaves.get(l);
            return a[0] == 3 ? 1 + passes(a[1]) : 0;
        }

        int leaveIs(int l, int what) {
            if (!in(l, 0, leaves.size() - 1) || !in(what, 0, 9)) return -2;
            int[] a = leaves.get(l);
            if (what == 1) return giver(l);
            if (what == 8) return a[0] == 3 ? a[1] : -1;
            return what == 9 ? passes(l) : a[what];
        }

        int bargainIs(int b, int what) {
            return in(b, 0, bargains.size() - 1) && in(what, 0, 5) ? bargains.get(b)[what] : -2;
        }

        int type(int l, int b) {
            if (!in(l, 0, 1) || !in(b, 0, 255)) return -2;
            if (texts[l].length() == 60) return -4;
            texts[l] += (char) b;
            return texts[l].length();
        }

        int wipe(int l) {
            if (!in(l, 0, 1)) return -2;
            int n = texts[l].length();
            texts[l] = "";
            return n;
        }

        static final String SIGNS = "bsptawnoc";
        static final int[] MOST = {2, 1, 99, 99, 99, 1, 2, 2, 9};
        static final int[] FIRST = {1, 1, 10, 0, 10, 1, 0, 1, 1};

        /** A machine of five states: letter, =, first figure, perhaps a second one, ;. */
        static int faultOf(String text, int[] into) {
            if (text.isEmpty()) return -1;
            int state = 0, letter = -1, number = 0, start = 0;
            String closed = text + '\uffff';
            for (int i = 0; i < closed.length(); i++) {
                char c = closed.charAt(i);
                boolean figure = c >= '0' && c <= '9';
                if (state == 3 && figure) {
                    number = number * 10 + c - '0';
                    state = 4;
                    continue;
                }
                if (state >= 3) {
                    if (number > MOST[letter]) return start;
                    into[letter] = number;
                    if (c == '\uffff') return -1;
                    if (c != ';') return i;
                    state = 0;
                } else if (state == 0) {
                    letter = SIGNS.indexOf(c);
                    if (letter < 0) return i;
                    state = 1;
                } else if (state == 1) {
                    if (c != '=') return i;
                    state = 2;
                } else {
                    if (!figure) return i;
                    number = c - '0';
                    start = i;
                    state = 3;
                }
            }
            throw new IllegalStateException(text);
        }

        int fault(int l) {
            return in(l, 0, 1) ? faultOf(texts[l], FIRST.clone()) : -2;
        }

        int[] words(int l) {
            int[] words = FIRST.clone();
            return faultOf(texts[l], words) == -1 ? words : FIRST.clone();
        }

        int law(int l, int which) {
            return in(l, 0, 1) && in(which, 0, 8) ? words(l)[which] : -2;
        }

        boolean ended(int[] w, int l, int[] g, int[] heard) {
            for (int i = 0; i < backs.size(); i++) {
                int[] k = backs.get(i);
                if (k[0] != l) continue;
                int[] a = leaves.get(l);
                boolean inTime = heard[i] <= g[5];
                if (a[0] == 2) {
                    if (k[2] == a[3] && inTime) return true;
                } else if (w[0] == 0) {
                    if (k[1] <= g[5]) return true;
                } else if (w[0] == 1) {
                    if (k[2] == a[2] && inTime) return true;
                } else if (k[2] == g[2] && inTime) {
                    return true;
                }
            }
            return false;
        }

        int[] heardNow() {
            int[] days = new int[backs.size()];
            for (int i = 0; i < days.length; i++) days[i] = backs.get(i)[3] == -1 ? 100 : backs.get(i)[3];
            return days;
        }

        int limit(int[] w, int l) {
            return leaves.get(l)[0] == 1 ? 10 * w[2] : leaves.get(l)[5];
        }

        boolean enough(int[] w, int l, int[] g, int[] heard) {
            int[] a = leaves.get(l);
            boolean sort = a[0] == 1 || (a[4] & 1 << g[3]) != 0;
            int most = limit(w, l);
            most += most * w[3] / 100;
            return in(g[5], a[6], a[7]) && sort && g[4] <= most && !ended(w, l, g, heard)
                    && (a[0] != 3 || enough(w, a[1], g, heard));
        }

        boolean reaches(int[] w, int l, int[] g, int[] heard) {
            int[] a = leaves.get(l);
            if (a[2] != g[0] || !enough(w, l, g, heard)) return false;
            if (g[1] != giver(l) && (g[1] != -1 || a[0] == 2)) return false;
            if (a[0] == 2 && (w[1] == 0 || a[3] != g[2])) return false;
            return a[0] != 3 || passes(l) <= w[8];
        }

        int reaches(int l, int v, int b, int what) {
            if (!in(l, 0, 1) || !in(v, 0, leaves.size() - 1) || !in(b, 0, bargains.size() - 1) || !in(what, 0, 1)) return -2;
            boolean is = what == 0 ? reaches(words(l), v, bargains.get(b), heardNow()) : ended(words(l), v, bargains.get(b), heardNow());
            return is ? 1 : 0;
        }

        boolean well(int[] w, int b) {
            int[] g = bargains.get(b);
            List<int[]> said = new ArrayList<>();
            for (int[] a : afters) if (a[0] == b && a[1] == g[1]) said.add(a);
            said.sort((p, q) -> Integer.compare(p[2], q[2]));
            for (int[] a : said) {
                if (a[3] == 0) return false;
                if (a[2] <= g[5] + w[4] && (w[5] == 0 || a[4] >= g[4])) return true;
            }
            return false;
        }

        int why(int[] w, int b, int[] heard) {
            int[] g = bargains.get(b);
            if (g[0] == g[1]) return 30;
            for (int l = 0; l < leaves.size(); l++) if (reaches(w, l, g, heard)) return l;
            return g[1] == -1 ? 30 : well(w, b) ? 20 : -1;
        }

        int bits(int[] w, int b, int[] heard) {
            int[] g = bargains.get(b);
            int why = why(w, b, heard);
            if (why == -1) return 0;
            if (why == 30) return 1 << g[0];
            if (g[1] != -1) return 1 << g[1];
            return (w[6] != 1 ? 1 << g[0] : 0) | (w[6] != 0 ? 1 << giver(why) : 0);
        }

        int bound(int l, int b, int what) {
            if (!in(l, 0, 1) || !in(b, 0, bargains.size() - 1) || !in(what, 0, 1)) return -2;
            return what == 0 ? bits(words(l), b, heardNow()) : why(words(l), b, heardNow());
        }

        int till(int l, int b) {
            if (!in(l, 0, 1) || !in(b, 0, bargains.size() - 1)) return -2;
            int[] g = bargains.get(b);
            return g[1] == -1 || g[1] == g[0] ? -3 : Math.min(99, g[5] + words(l)[4]);
        }

        int ask(int l, int b, int p) {
            if (!in(l, 0, 1) || !in(b, 0, bargains.size() - 1) || !in(p, 0, 7)) return -2;
            int[] g = bargains.get(b);
            int bits = bound(l, b, 0);
            if ((bits >> p & 1) == 1) return g[4];
            if (bits != 0 || p != g[0]) return 0;
            int o = words(l)[7];
            return o == 0 ? 0 : o == 1 ? g[4] : g[4] + g[4] / 10;
        }

        int owes(int l, int b) {
            if (!in(l, 0, 1) || !in(b, 0, bargains.size() - 1)) return -2;
            int[] g = bargains.get(b);
            int why = bound(l, b, 1);
            if (why == -1 || why >= 20 || (bound(l, b, 0) & ~(1 << g[0])) == 0) return 0;
            return leaves.get(why)[0] == 2 ? g[4] : Math.max(0, g[4] - limit(words(l), why));
        }

        int[][] ends(int l) {
            int[] purse = purses.clone();
            int[] lost = new int[bargains.size()];
            for (int b = 0; b < lost.length; b++) {
                int[] g = bargains.get(b);
                int due = 0, got = 0, byBound = 0, to = -1;
                List<Integer> payers = new ArrayList<>();
                for (int p = 0; p < 8; p++) {
                    due = Math.max(due, ask(l, b, p));
                    if (p != g[0] && ask(l, b, p) > 0) payers.add(p);
                    if (to == -1 && p != g[0] && (bound(l, b, 0) >> p & 1) == 1) to = p;
                }
                payers.add(g[0]);
                for (int p : payers) {
                    int part = ask(l, b, p) == 0 ? 0 : Math.min(due - got, purse[p]);
                    purse[p] -= part;
                    got += part;
                    if (p == to) byBound = part;
                }
                purse[g[2]] += got;
                lost[b] = due - got;
                if (to != -1) {
                    int part = Math.min(owes(l, b), Math.min(byBound, purse[g[0]]));
                    purse[g[0]] -= part;
                    purse[to] += part;
                }
            }
            return new int[][] {purse, lost};
        }

        int end(int l, int which, int k) {
            if (!in(l, 0, 1) || !in(which, 0, 1) || !in(k, 0, which == 0 ? 7 : bargains.size() - 1)) return -2;
            return ends(l)[which][k];
        }

        List<Integer> open() {
            List<Integer> open = new ArrayList<>();
            for (int i = 0; i < backs.size(); i++) if (backs.get(i)[3] == -1 && open.size() < 6) open.add(i);
            return open;
        }

        int bitsInWay(int l, int b, int way) {
            int[] heard = heardNow();
            List<Integer> open = open();
            for (int i = 0; i < open.size(); i++) if ((way >> i & 1) == 1) heard[open.get(i)] = backs.get(open.get(i))[1];
            return bits(words(l), b, heard);
        }

        int sure(int l, int b, int p) {
            if (!in(l, 0, 1) || !in(b, 0, bargains.size() - 1) || !in(p, 0, 7)) return -2;
            int and = 255, or = 0;
            for (int way = 0; way < 1 << open().size(); way++) {
                and &= bitsInWay(l, b, way);
                or |= bitsInWay(l, b, way);
            }
            return (and >> p & 1) + (or >> p & 1);
        }

        int hangs(int l, int b, int k) {
            int at = open().indexOf(k);
            if (!in(l, 0, 1) || !in(b, 0, bargains.size() - 1) || at < 0) return -2;
            for (int way = 0; way < 1 << open().size(); way++) {
                if (bitsInWay(l, b, way) != bitsInWay(l, b, way ^ 1 << at)) return 1;
            }
            return 0;
        }

        int wanted(int l, int b) {
            if (!in(l, 0, 1) || !in(b, 0, bargains.size() - 1)) return -2;
            List<Integer> open = open();
            int all = 1 << open.size();
            int[] table = new int[all];
            for (int way = 0; way < all; way++) table[way] = bitsInWay(l, b, way);
            int best = -1, bestBits = 0;
            for (int set = 0; set < all; set++) {
                boolean settles = true;
                for (int p = 0; p < all && settles; p++) {
                    for (int q = 0; q < all && settles; q++) settles = (p & set) != (q & set) || table[p] == table[q];
                }
                int bits = 0;
                for (int i = 0; i < open.size(); i++) if ((set >> i & 1) == 1) bits |= 1 << open.get(i);
                if (!settles) continue;
                if (best == -1 || Integer.bitCount(set) < best || (Integer.bitCount(set) == best && bits < bestBits)) {
                    best = Integer.bitCount(set);
                    bestBits = bits;
                }
            }
            return bestBits;
        }

        int turned(int b) {
            if (!in(b, 0, bargains.size() - 1)) return -2;
            int best = 511;
            for (int set = 510; set >= 0; set--) {
                int[] w = words(0);
                for (int i = 0; i < 9; i++) if ((set >> i & 1) == 1) w[i] = words(1)[i];
                if (Integer.bitCount(set) <= Integer.bitCount(best) && bits(w, b, heardNow()) == bound(1, b, 0)) best = set;
            }
            return best;
        }

        int letter(int from, int holder, int set, int what) {
            if (!in(from, 0, 7) || !in(holder, 0, 7) || from == holder || !in(what, 0, 1) || set < 0) return -2;
            for (int b = 0; b < 31; b++) {
                if ((set >> b & 1) == 1 && (b >= bargains.size() || bargains.get(b)[0] != holder || bargains.get(b)[1] != from)) return -2;
            }
            int[] best = null;
            for (int sorts = 1; sorts < 16; sorts++) {
                if (best != null && Integer.bitCount(sorts) >= Integer.bitCount(best[0])) continue;
                for (int limit = 0; limit <= 500; limit += 10) {
                    if (fits(from, holder, set, sorts, limit)) {
                        best = new int[] {sorts, limit};
                        break;
                    }
                }
            }
            return best == null ? -1 : best[what];
        }

        boolean fits(int from, int holder, int set, int sorts, int limit) {
            leaves.add(new int[] {0, from, holder, 0, sorts, limit, 0, 99});
            boolean fits = true;
            for (int b = 0; b < bargains.size() && fits; b++) {
                int[] g = bargains.get(b);
                for (int l = 0; l < 2 && g[0] == holder && g[1] == from; l++) {
                    fits &= (bits(words(l), b, heardNow()) >> from & 1) == (set >> b & 1);
                }
            }
            leaves.remove(leaves.size() - 1);
            return fits;
        }

        int sheet(int s, int type, int n) {
            if (!in(s, 0, 3) || !in(type, 0, 2) || n > 60) return -2;
            if (n < 0) return found(5);
            sheets[s] = type == 0 ? new byte[n] : type == 1 ? new short[n] : new int[n];
            return n;
        }

        int lose(int s) {
            if (!in(s, 0, 3)) return -2;
            if (sheets[s] == null) return found(1);
            int n = length(s);
            sheets[s] = null;
            return n;
        }

        int lay(int s, int type, int i, int v) {
            if (!in(s, 0, 3) || !in(type, 0, 2)) return -2;
            if (sheets[s] == null) return found(1);
            if (kind(s) != type) return found(3);
            if (!in(i, 0, length(s) - 1)) return found(2);
            put(s, i, v);
            return 1;
        }

        int get(int s, int type, int i) {
            if (!in(s, 0, 3) || !in(type, 0, 2)) return Integer.MIN_VALUE;
            int f = sheets[s] == null ? 1 : kind(s) != type ? 3 : !in(i, 0, length(s) - 1) ? 2 : 0;
            if (f != 0) {
                found(f);
                return Integer.MIN_VALUE;
            }
            return item(s, i);
        }

        int copy(int s, int i, int t, int j, int n) {
            if (!in(s, 0, 3) || !in(t, 0, 3)) return -2;
            if (sheets[s] == null || sheets[t] == null) return found(1);
            if (kind(s) != kind(t)) return found(4);
            if (i < 0 || j < 0 || n < 0 || (long) i + n > length(s) || (long) j + n > length(t)) return found(2);
            System.arraycopy(sheets[s], i, sheets[t], j, n);
            return 1;
        }

        int write(int l, int s) {
            if (!in(l, 0, 1) || !in(s, 0, 3)) return -2;
            if (sheets[s] == null) return found(1);
            int n = Math.min(8, length(s));
            for (int p = 0; p < n; p++) put(s, p, ends(l)[0][p]);
            return n;
        }

        int count(int what) {
            int open = 0;
            for (int[] k : backs) if (k[3] == -1) open++;
            int[] all = {leaves.size(), backs.size(), open, bargains.size(), afters.size(), texts[0].length(),
                texts[1].length(), Arrays.stream(purses).sum(), finding};
            return in(what, 0, 8) ? all[what] : -2;
        }

        long digest() {
            List<Integer> all = new ArrayList<>();
            for (int i = 0; i < 8; i++) all.add(count(i));
            for (int l = 0; l < 2; l++) {
                all.add(fault(l));
                for (int i = 0; i < 9; i++) all.add(law(l, i));
                for (int b = 0; b < bargains.size(); b++) {
                    all.add(bound(l, b, 0));
                    all.add(bound(l, b, 1));
                    all.add(owes(l, b));
                }
            }
            int[][] ends = ends(0);
            for (int p = 0; p < 8; p++) all.add(ends[0][p]);
            for (int b = 0; b < bargains.size(); b++) {
                all.add(ends[1][b]);
                all.add(turned(b));
            }
            long h = 17;
            for (int v : all) h = 31 * h + v;
            return h;
        }
    }

    private static final String[] NAMES = {
        "purse", "leave", "back", "heard", "bargain", "read", "after", "leaveIs", "bargainIs", "type", "wipe",
        "fault", "law", "reaches", "bound", "till", "ask", "owes", "end", "sure", "hangs", "wanted", "turned",
        "letter", "sheet", "lose", "lay", "get", "copy", "write", "count", "digest",
    };
    private static final int[] ARGUMENTS = {
        2, 8, 4, 2, 6, 1, 5, 2, 2, 2, 1, 1, 2, 4, 3, 2, 3, 2, 3, 3, 3, 2, 1, 4, 3, 1, 4, 3, 5, 2, 1, 0,
    };
    private static final int[] OFTEN = {
        3, 9, 8, 2, 9, 1, 9, 1, 1, 0, 1, 2, 2, 8, 9, 2, 4, 4, 6, 6, 6, 5, 6, 8, 4, 1, 6, 4, 4, 2, 3, 1,
    };

    private static long onClass(WhoseName x, int call, int[] a) {
        switch (call) {
            case 0: return x.purse(a[0], a[1]);
            case 1: return x.leave(a[0], a[1], a[2], a[3], a[4], a[5], a[6], a[7]);
            case 2: return x.back(a[0], a[1], a[2], a[3]);
            case 3: return x.heard(a[0], a[1]);
            case 4: return x.bargain(a[0], a[1], a[2], a[3], a[4], a[5]);
            case 5: return x.read(a[0]);
            case 6: return x.after(a[0], a[1], a[2], a[3], a[4]);
            case 7: return x.leaveIs(a[0], a[1]);
            case 8: return x.bargainIs(a[0], a[1]);
            case 9: return x.type(a[0], a[1]);
            case 10: return x.wipe(a[0]);
            case 11: return x.fault(a[0]);
            case 12: return x.law(a[0], a[1]);
            case 13: return x.reaches(a[0], a[1], a[2], a[3]);
            case 14: return x.bound(a[0], a[1], a[2]);
            case 15: return x.till(a[0], a[1]);
            case 16: return x.ask(a[0], a[1], a[2]);
            case 17: return x.owes(a[0], a[1]);
            case 18: return x.end(a[0], a[1], a[2]);
            case 19: return x.sure(a[0], a[1], a[2]);
            case 20: return x.hangs(a[0], a[1], a[2]);
            case 21: return x.wanted(a[0], a[1]);
            case 22: return x.turned(a[0]);
            case 23: return x.letter(a[0], a[1], a[2], a[3]);
            case 24: return x.sheet(a[0], a[1], a[2]);
            case 25: return x.lose(a[0]);
            case 26: return x.lay(a[0], a[1], a[2], a[3]);
            case 27: return x.get(a[0], a[1], a[2]);
            case 28: return x.copy(a[0], a[1], a[2], a[3], a[4]);
            case 29: return x.write(a[0], a[1]);
            case 30: return x.count(a[0]);
            default: return x.digest();
        }
    }

    private static long onModel(Model x, int call, int[] a) {
        switch (call) {
            case 0: return x.purse(a[0], a[1]);
            case 1: return x.leave(a.clone());
            case 2: return x.back(a.clone());
            case 3: return x.heard(a[0], a[1]);
            case 4: return x.bargain(a.clone());
            case 5: return x.read(a[0]);
            case 6: return x.after(a.clone());
            case 7: return x.leaveIs(a[0], a[1]);
            case 8: return x.bargainIs(a[0], a[1]);
            case 9: return x.type(a[0], a[1]);
            case 10: return x.wipe(a[0]);
            case 11: return x.fault(a[0]);
            case 12: return x.law(a[0], a[1]);
            case 13: return x.reaches(a[0], a[1], a[2], a[3]);
            case 14: return x.bound(a[0], a[1], a[2]);
            case 15: return x.till(a[0], a[1]);
            case 16: return x.ask(a[0], a[1], a[2]);
            case 17: return x.owes(a[0], a[1]);
            case 18: return x.end(a[0], a[1], a[2]);
            case 19: return x.sure(a[0], a[1], a[2]);
            case 20: return x.hangs(a[0], a[1], a[2]);
            case 21: return x.wanted(a[0], a[1]);
            case 22: return x.turned(a[0]);
            case 23: return x.letter(a[0], a[1], a[2], a[3]);
            case 24: return x.sheet(a[0], a[1], a[2]);
            case 25: return x.lose(a[0]);
            case 26: return x.lay(a[0], a[1], a[2], a[3]);
            case 27: return x.get(a[0], a[1], a[2]);
            case 28: return x.copy(a[0], a[1], a[2], a[3], a[4]);
            case 29: return x.write(a[0], a[1]);
            case 30: return x.count(a[0]);
            default: return x.digest();
        }
    }

    private final Random random;
    private final Model model = new Model();
    private final WhoseName subject = new WhoseName();
    /** Few persons, days and amounts in a run make its things meet. */
    private final int persons;
    private final int days;
    private final boolean wild;
    private final List<String> story = new ArrayList<>();
    private static final long[] answered = new long[NAMES.length];
    private static final long[] refused = new long[NAMES.length];
    private static final long[] zeros = new long[NAMES.length];

    private ModelTest(long seed) {
        random = new Random(seed);
        persons = 4 + random.nextInt(5);
        days = random.nextBoolean() ? 12 : 100;
        wild = seed % 5 == 0;
    }

    private int below(int n) {
        return random.nextInt(Math.max(1, n));
    }

    private int pick(int... of) {
        return of[below(of.length)];
    }

    private int person() {
        return below(persons);
    }

    private int day() {
        return below(days);
    }

    private int amount() {
        return below(3) == 0 ? below(1000) : 10 * below(25) + pick(0, 0, 1, -1, 5, 9) & 1023;
    }

    private int of(int size) {
        return below(12) == 0 ? below(13) : below(size);
    }

    private int[] drawn(int call) {
        int l = below(2), b = of(model.bargains.size());
        switch (call) {
            case 0: return new int[] {person(), pick(0, 10, 50, below(400), 1000, below(10000))};
            case 1: return drawnLeave();
            case 2: {
                int v = of(model.leaves.size()), sent = pick(day(), below(6));
                int who = v < model.leaves.size() ? pick(model.leaves.get(v)[2], model.leaves.get(v)[3] & 7, person(), person()) : 0;
                return new int[] {v, sent, who, pick(-1, -1, -1, sent, Math.min(99, sent + below(20)), 100)};
            }
            case 3: return new int[] {of(model.backs.size()), pick(day(), day(), 100)};
            case 4: return drawnBargain();
            case 6: {
                int[] g = b < model.bargains.size() ? model.bargains.get(b) : new int[6];
                return new int[] {b, pick(Math.max(0, g[1]), Math.max(0, g[1]), person()), Math.min(99, g[5] + below(15)),
                    pick(0, 1, 1), pick(g[4], g[4], 999, Math.max(0, g[4] - 1), 0)};
            }
            case 7: return new int[] {of(model.leaves.size()), below(10)};
            case 8: return new int[] {b, below(6)};
            case 12: return new int[] {l, below(9)};
            case 13: return new int[] {l, of(model.leaves.size()), b, below(2)};
            case 14: return new int[] {l, b, below(2)};
            case 15: case 17: case 21: return new int[] {l, b};
            case 16: case 19: return new int[] {l, b, person()};
            case 18: {
                int which = below(2);
                return new int[] {l, which, which == 0 ? person() : b};
            }
            case 20: return new int[] {l, b, of(model.backs.size())};
            case 22: return new int[] {b};
            case 23: return drawnLetter(b);
            case 24: return new int[] {below(4), below(3), pick(below(61), 12, 60, -1, 61, 8)};
            case 26: {
                int s = below(4);
                return new int[] {s, kindOf(s), itemOf(s), pick(person(), person(), random.nextInt())};
            }
            case 27: {
                int s = below(4);
                return new int[] {s, kindOf(s), itemOf(s)};
            }
            case 28: {
                int s = below(4), t = pick(s, below(4));
                return new int[] {s, itemOf(s), t, itemOf(t), below(20) - below(2)};
            }
            case 29: return new int[] {l, below(4)};
            case 30: return new int[] {below(9)};
            case 31: return new int[0];
            default: return new int[] {l};
        }
    }

    private int kindOf(int s) {
        return model.sheets[s] == null || below(9) == 0 ? below(3) : model.kind(s);
    }

    private int itemOf(int s) {
        return model.sheets[s] == null ? below(61) : below(model.length(s) + below(2)) - below(12) / 11;
    }

    private int[] drawnLeave() {
        int form = pick(0, 0, 1, 2, 3, 3, 3);
        int first = below(3) == 0 ? day() : 0;
        int last = below(3) == 0 ? Math.min(99, first + below(40)) : 99;
        int more = form == 2 ? person() : form == 1 ? 0 : pick(0, 1, 1, 1);
        return new int[] {form, form == 3 ? of(model.leaves.size()) : person(), person(), more, pick(15, 15, 1 + below(15)), Math.min(999, amount()), first, last};
    }

    private int[] drawnBargain() {
        int doer = person(), named = pick(-1, person(), person(), person(), doer);
        int other = person(), sort = below(4), near = amount(), day = day();
        if (!model.leaves.isEmpty() && below(6) != 0) {
            int v = below(model.leaves.size());
            int[] a = model.leaves.get(v);
            doer = a[2];
            named = pick(model.giver(v), model.giver(v), model.giver(v), -1);
            if (a[0] == 2) other = a[3];
            while (below(4) != 0 && (a[4] >> sort & 1) == 0) sort = below(4);
            near = a[0] == 1 ? pick(100, 10 * model.words(0)[2]) : a[5];
            day = pick(day, day, a[6], a[7], Math.min(99, a[6] + below(9)));
        }
        int worth = pick(amount(), near, near + 1, near + near / 10, near / 2, near / 3, near / 4);
        return new int[] {doer, named, other, sort, Math.min(999, worth), day};
    }

    private int[] drawnLetter(int b) {
        int holder = person(), from = person(), set = 0;
        if (b < model.bargains.size() && model.bargains.get(b)[1] >= 0) {
            holder = model.bargains.get(b)[0];
            from = model.bargains.get(b)[1];
        }
        for (int i = 0; i < model.bargains.size(); i++) {
            int[] g = model.bargains.get(i);
            boolean isBound = (model.bound(0, i, 0) & model.bound(1, i, 0)) != 0;
            if (g[0] == holder && g[1] == from && (isBound || random.nextBoolean())) set |= 1 << i;
        }
        return new int[] {from, holder, below(15) == 0 ? random.nextInt() >> below(32) : set, below(2)};
    }

    private void call(int call, int[] a) {
        long got = onClass(subject, call, a);
        long want = onModel(model, call, a);
        answered[call]++;
        if (want < -1) refused[call]++;
        if (want == 0) zeros[call]++;
        String row = NAMES[call] + Arrays.toString(a) + " answered " + got;
        story.add(row);
        if (got != want) {
            for (String s : story) System.out.println("  " + s);
            System.out.println("the last is wrong, due is " + want);
            System.exit(1);
        }
    }

    private void typeText() {
        int l = below(2);
        call(10, new int[] {l});
        StringBuilder text = new StringBuilder();
        int parts = below(6);
        for (int i = 0; i < parts; i++) {
            int letter = below(9);
            if (i > 0) text.append(';');
            text.append(Model.SIGNS.charAt(letter)).append('=');
            int n = below(Model.MOST[letter] + 1);
            if (letter == 4 || letter == 3) n = pick(n, below(20));
            text.append(n);
        }
        if (below(6) == 0 && text.length() > 0) text.setCharAt(below(text.length()), "bsptawnoc=;0123456789 x".charAt(below(23)));
        if (below(12) == 0 && text.length() > 0) text.setLength(below(text.length()));
        for (int i = 0; i < text.length() && i < 60; i++) call(9, new int[] {l, text.charAt(i)});
        call(11, new int[] {l});
    }

    private void runAll() {
        int all = Arrays.stream(OFTEN).sum();
        while (story.size() < CALLS) {
            if (below(30) == 0) {
                typeText();
                continue;
            }
            int at = below(all), call = 0;
            while (at >= OFTEN[call]) at -= OFTEN[call++];
            int[] a = drawn(call);
            if (a.length != ARGUMENTS[call]) {
                throw new IllegalStateException(NAMES[call]);
            }
            if (wild && a.length > 0 && below(4) == 0) {
                a[below(a.length)] = pick(-1, -2, -3, 100, 101, 8, 12, 999, 1000, random.nextInt(), Integer.MAX_VALUE, Integer.MIN_VALUE);
            }
            call(call, a);
        }
        call(31, new int[0]);
    }

    public static void main(String[] args) {
        int runs = args.length > 0 ? Integer.parseInt(args[0]) : RUNS;
        for (int seed = 0; seed < runs; seed++) {
            new ModelTest(seed).runAll();
        }
        if (args.length > 0) {
            for (int i = 0; i < NAMES.length; i++) System.out.println(NAMES[i] + " " + answered[i] + ", refused " + refused[i] + ", zeros " + zeros[i]);
        }
        System.out.println(Arrays.stream(answered).sum() + " answers in " + runs + " runs are as due");
    }
}
