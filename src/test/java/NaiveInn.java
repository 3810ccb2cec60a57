import java.util.ArrayDeque;
import java.util.ArrayList;
import java.util.Deque;
import java.util.HashMap;
import java.util.List;
import java.util.Map;

/**
 * The document once more, in the plainest and slowest form, by other ways than the class goes: each asking goes
 * on a copy of everything, expressions are cut up as text, the fault is found sign by sign, acts are real classes.
 */
final class NaiveInn {
    static final long NO = Long.MIN_VALUE;

    /** A guest; the acts of its kind are the overridden methods of its subclass. */
    static class One implements Cloneable {
        int number;
        int kind;
        int v;
        int means;
        int lost;
        boolean in = true;
        int[] parts = new int[4];
        List<Integer> trace = new ArrayList<>();

        static One ofKind(int kind) {
            switch (kind) {
                case 0: return new One();
                case 1: return new Lover();
                case 2: return new General();
                case 3: return new Thief();
                case 4: return new Maid();
                case 5: return new Child();
                default: return new Told();
            }
        }

        One copy() {
            try {
                One other = (One) clone();
                other.parts = parts.clone();
                return other;
            } catch (CloneNotSupportedException e) {
                throw new IllegalStateException(e);
            }
        }

        boolean meansIt(int x) { return (means & 1 << x) != 0; }
        boolean lostIt(int x) { return (lost & 1 << x) != 0; }

        int tempts(Inn inn, int x) { return inn.sum(this, x); }

        int sleeps(int x) { trace.add(10); return x + number; }
        int wakes(int x) { trace.add(11); return sleeps(x) - v; }
        int tells(int x) { trace.add(12); return wakes(x) * 2; }
    }

    static class Lover extends One {
        int tempts(Inn inn, int x) { return inn.sum(this, x) + (x % 2 == 0 ? v : 0); }
        int wakes(int x) { trace.add(20); return super.wakes(x) ^ 6; }
    }

    static class General extends One {
        int tempts(Inn inn, int x) {
            int sum = inn.sum(this, x);
            return sum < 0 ? -(-sum / 2) : sum / 2;
        }
        int sleeps(int x) { trace.add(30); return super.sleeps(x * 3); }
    }

    static class Thief extends One {
        int tempts(Inn inn, int x) { return v > inn.weights[x] ? 0 : inn.sum(this, x); }
        int tells(int x) { trace.add(40); return super.tells(x) + wakes(1); }
    }

    static class Maid extends Lover {
        int tempts(Inn inn, int x) { return super.tempts(inn, x) - (lostIt(x) ? 10 : 0); }
        int sleeps(int x) { trace.add(50); return -super.sleeps(x); }
        int wakes(int x) { trace.add(51); return super.wakes(x + 1); }
    }

    static class Child extends General {
        int tempts(Inn inn, int x) { return super.tempts(inn, x) + inn.night % 5; }
        int tells(int x) { trace.add(60); return super.tells(x - number); }
    }

    static class Told extends Thief {
        int tempts(Inn inn, int x) { return super.tempts(inn, x) + parts[x % 4]; }
        int wakes(int x) { trace.add(70); return super.wakes(x) + super.sleeps(2); }
        int sleeps(int x) { trace.add(71); return super.sleeps(x) ^ v; }
    }

    /** A house as its text; what it comes to is kept by the six facts, only since cutting up text is slow. */
    static final class Text {
        final String text;
        final Map<String, Integer> known = new HashMap<>();

        Text(String text) { this.text = text; }

        int keep() {
            int keep = 3;
            if (!text.isEmpty()) {
                for (String clause : text.split(";")) {
                    if (clause.startsWith("keep")) {
                        keep = Integer.parseInt(clause.substring(5));
                    }
                }
            }
            return keep;
        }

        int sway(int[] facts) {
            String key = java.util.Arrays.toString(facts);
            Integer before = known.get(key);
            if (before != null) {
                return before;
            }
            int sum = 0;
            if (!text.isEmpty()) {
                for (String clause : text.split(";")) {
                    String[] parts = clause.split(" ");
                    if (parts.length == 3 && holds(parts[2], facts)) {
                        sum += (parts[0].equals("fancy") ? 1 : -1) * Integer.parseInt(parts[1]);
                    }
                }
            }
            known.put(key, sum);
            return sum;
        }

        static List<String> cut(String e, char by) {
            List<String> parts = new ArrayList<>();
            int open = 0;
            int from = 0;
            for (int i = 0; i < e.length(); i++) {
                open += e.charAt(i) == '(' ? 1 : e.charAt(i) == ')' ? -1 : 0;
                if (e.charAt(i) == by && open == 0) {
                    parts.add(e.substring(from, i));
                    from = i + 1;
                }
            }
            parts.add(e.substring(from));
            return parts;
        }

        static boolean holds(String e, int[] facts) {
            List<String> choices = cut(e, '|');
            if (choices.size() > 1) {
                return choices.stream().anyMatch(c -> holds(c, facts));
            }
            List<String> all = cut(e, '&');
            if (all.size() > 1) {
                return all.stream().allMatch(c -> holds(c, facts));
            }
            if (e.charAt(0) == '!') {
                return !holds(e.substring(1), facts);
            }
            if (e.charAt(0) == '(') {
                return holds(e.substring(1, e.length() - 1), facts);
            }
            int fact = facts["pkvxwn".indexOf(e.charAt(0))];
            int n = Integer.parseInt(e.substring(2));
            return e.charAt(1) == '<' ? fact < n : e.charAt(1) == '=' ? fact == n : fact > n;
        }

        /** The fault, or -1, by a machine that knows at each sign what may come next. */
        static int fault(String text) {
            int clauses = 1;
            char word = 0;
            String rest = "";
            String mode = "clause";
            Deque<Character> nest = new ArrayDeque<>();
            for (int i = 0; i < text.length(); i++) {
                char c = text.charAt(i);
                boolean digit = c >= '0' && c <= '9';
                boolean behindTest = (mode.equals("digit2") || mode.equals("behind")) && word != 'k';
                boolean behindClause = mode.equals("digit2") || mode.equals("behind");
                if (mode.equals("clause") && "flk".indexOf(c) >= 0) {
                    word = c;
                    rest = c == 'f' ? "ancy " : c == 'l' ? "eave " : "eep ";
                    mode = "word";
                } else if (mode.equals("word") && c == rest.charAt(0)) {
                    rest = rest.substring(1);
                    mode = rest.isEmpty() ? "amount1" : "word";
                } else if (mode.equals("amount1") && digit) {
                    mode = word == 'k' ? "digit2" : "amount2";
                } else if (mode.equals("amount2") && digit) {
                    mode = "amountEnd";
                } else if ((mode.equals("amount2") || mode.equals("amountEnd")) && c == ' ') {
                    mode = "operand";
                } else if (mode.equals("operand") && (c == '(' || c == '!') && nest.size() < 4) {
                    nest.push(c);
                } else if (mode.equals("operand") && "pkvxwn".indexOf(c) >= 0) {
                    mode = "relation";
                } else if (mode.equals("relation") && "<=>".indexOf(c) >= 0) {
                    mode = "digit1";
                } else if (mode.equals("digit1") && digit) {
                    mode = "digit2";
                    closeNots(nest);
                } else if (mode.equals("digit2") && digit) {
                    mode = "behind";
                } else if (behindTest && (c == '&' || c == '|')) {
                    mode = "operand";
                } else if (behindTest && c == ')' && !nest.isEmpty()) {
                    nest.pop();
                    closeNots(nest);
                    mode = "behind";
                } else if (behindClause && c == ';' && nest.isEmpty() && clauses < 10) {
                    clauses++;
                    mode = "clause";
                } else {
                    return i;
                }
            }
            boolean whole = (mode.equals("digit2") || mode.equals("behind")) && nest.isEmpty();
            return whole ? -1 : text.length();
        }

        static void closeNots(Deque<Character> nest) {
            while (!nest.isEmpty() && nest.peek() == '!') {
                nest.pop();
            }
        }
    }

    /** All that the image keeps. */
    static final class Inn {
        int[] weights = {0, 1, 2, 3, 4, 5, 6, 7, 8, 9, 0, 1};
        int[] cellar = new int[12];
        List<One> guests = new ArrayList<>();
        int night;
        Text house = new Text("");
        List<int[]> seen = new ArrayList<>();
        List<int[]> plan = new ArrayList<>();
        List<int[]> book = new ArrayList<>();

        Inn copy() {
            Inn other = new Inn();
            other.weights = weights.clone();
            other.cellar = cellar.clone();
            for (One g : guests) {
                other.guests.add(g.copy());
            }
            other.night = night;
            other.house = house;
            other.seen.addAll(seen);
            other.plan.addAll(plan);
            other.book.addAll(book);
            return other;
        }

        Inn alone(int guest) {
            Inn other = copy();
            One it = other.guests.get(guest);
            other.guests.clear();
            other.guests.add(it);
            return other;
        }

        int sum(One g, int x) {
            int w = weights[x];
            return 5 + 2 * w + house.sway(new int[] {g.number, g.kind, g.v, x, w, night % 10});
        }

        int prey(One g) {
            int best = -5;
            for (int x = 11; x >= 0; x--) {
                if (g.in && g.meansIt(x) && g.tempts(this, x) > 0
                    && (best < 0 || g.tempts(this, x) >= g.tempts(this, best))) {
                    best = x;
                }
            }
            return best;
        }

        void passNight() {
            List<Integer> preys = new ArrayList<>();
            for (One g : guests) {
                preys.add(prey(g));
            }
            for (int i = 0; i < guests.size(); i++) {
                int x = preys.get(i);
                if (x >= 0) {
                    guests.get(i).means ^= 1 << x;
                    guests.get(i).lost |= 1 << x;
                    if (cellar[x] < 99) {
                        cellar[x]++;
                    }
                }
            }
            night++;
            int keep = house.keep();
            if (keep != 0 && night % keep == 0) {
                for (int x = 0; x < 12; x++) {
                    if (cellar[x] > 0) {
                        cellar[x]--;
                    }
                }
            }
        }

        Inn behind(int n) {
            Inn other = copy();
            for (int i = 0; i < n; i++) {
                other.passNight();
            }
            return other;
        }

        int meantByAll() {
            int many = 0;
            for (One g : guests) {
                for (int x = 0; x < 12; x++) {
                    many += g.meansIt(x) ? 1 : 0;
                }
            }
            return many;
        }

        boolean gives(int a, int b) {
            for (int x = 0; x < 12; x++) {
                One to = guests.get(b);
                if (a != b && guests.get(a).meansIt(x) && to.lostIt(x) && !to.meansIt(x)) {
                    return true;
                }
            }
            return false;
        }

        int ring() {
            int best = 0;
            for (int g = 0; g < guests.size(); g++) {
                best = Math.max(best, ring(g, g, 1 << g, 1));
            }
            return best;
        }

        int ring(int first, int last, int used, int many) {
            int best = many > 1 && gives(last, first) ? many : 0;
            for (int g = 0; g < guests.size(); g++) {
                if ((used & 1 << g) == 0 && gives(last, g)) {
                    best = Math.max(best, ring(first, g, used | 1 << g, many + 1));
                }
            }
            return best;
        }

        /** Whether all that is seen of the guest is so, by an inn in which it is alone. */
        boolean isSoAsSeen(int guest) {
            for (int[] row : seen) {
                if (row[0] == guest && behind(row[1]).guests.get(0).meansIt(row[2]) != (row[3] == 1)) {
                    return false;
                }
            }
            return true;
        }
    }

    Inn now = new Inn();
    Inn image;
    int houses;
    String text = "";
    List<Integer> trace = new ArrayList<>();
    int[] sorts = {-1, -1, -1, -1, -1, -1};
    long[][] tapes = new long[6][0];

    boolean noGuest(int g) { return g < 0 || g >= now.guests.size(); }
    boolean noPurpose(int x) { return x < 0 || x > 11; }
    boolean noTape(int t) { return t < 0 || t > 5; }

    int guest(int kind, int v, int means) {
        if (kind < 0 || kind > 6) return -1;
        if (v < 0 || v > 9 || means < 0 || means > 4095) return -2;
        if (now.guests.size() == 6) return -4;
        One g = One.ofKind(kind);
        g.number = now.guests.size();
        g.kind = kind;
        g.v = v;
        g.means = means;
        now.guests.add(g);
        return g.number;
    }

    int of(int guest, int what) {
        if (noGuest(guest)) return -10001;
        One g = now.guests.get(guest);
        if (what == 0) return g.kind;
        if (what == 1) return g.v;
        if (what == 2) return g.means;
        if (what == 3) return g.lost;
        if (what == 4) return g.in ? 1 : 0;
        if (what == 5) return now.prey(g);
        if (what == 6) return empty(guest);
        if (what == 7) return back(guest);
        return what < 10 || what > 21 ? -10001 : g.tempts(now, what - 10);
    }

    private int empty(int guest) {
        for (int n = 0; n <= 60; n++) {
            if (now.alone(guest).behind(n).guests.get(0).means == 0) return n;
        }
        return -5;
    }

    private int back(int guest) {
        int back = 0;
        One g = now.guests.get(guest);
        for (int x = 0; x < 12; x++) {
            boolean there = now.cellar[x] > 0;
            for (One other : now.guests) {
                there |= other != g && other.meansIt(x);
            }
            if (there && g.lostIt(x) && !g.meansIt(x)) back += 1 << x;
        }
        return back;
    }

    int set(int guest, int what, int purposes) {
        if (noGuest(guest) || what < 0 || what > 1) return -1;
        if (purposes < 0 || purposes > 4095) return -2;
        One g = now.guests.get(guest);
        int was = what == 0 ? g.means : g.lost;
        if (what == 0) g.means = purposes; else g.lost = purposes;
        return was;
    }

    int weight(int purpose, int n) {
        if (noPurpose(purpose)) return -1;
        if (n < 0 || n > 9) return -2;
        int was = now.weights[purpose];
        now.weights[purpose] = n;
        return was;
    }

    int stay(int guest, boolean is) {
        if (noGuest(guest)) return -1;
        boolean was = now.guests.get(guest).in;
        now.guests.get(guest).in = is;
        return was ? 1 : 0;
    }

    int redeem(int guest, int x) {
        if (noGuest(guest) || noPurpose(x)) return -1;
        One g = now.guests.get(guest);
        if (!g.lostIt(x) || g.meansIt(x) || now.cellar[x] == 0) return -3;
        g.means += 1 << x;
        g.lost -= 1 << x;
        return --now.cellar[x];
    }

    int row(int guest, int part, int n) {
        if (noGuest(guest) || part < 0 || part > 3) return -1;
        if (n < 0 || n > 9) return -2;
        One g = now.guests.get(guest);
        if (g.kind != 6) return -3;
        int was = g.parts[part];
        g.parts[part] = n;
        return was;
    }

    int feed(int sign) {
        if (sign < 0 || sign > 127) return -2;
        if (text.length() == 100) return -4;
        text += (char) sign;
        return text.length();
    }

    int house() {
        if (houses == 6) return -4;
        String read = text;
        text = "";
        int fault = Text.fault(read);
        if (fault >= 0) return -10 - fault;
        now.house = new Text(read);
        return houses++;
    }

    int told(int what) {
        if (what == 0) return now.night;
        if (what == 1) return now.house.keep();
        if (what == 2) return now.meantByAll();
        if (what == 3) return now.ring();
        if (what == 4) {
            int in = 0;
            for (One g : now.guests) in += g.in ? 1 << g.number : 0;
            return in;
        }
        if (what >= 10 && what <= 21) return now.cellar[what - 10];
        return what >= 30 && what <= 41 ? now.weights[what - 30] : -1;
    }

    int pass(int n) {
        if (n < 0 || n > 60) return -2;
        if (now.night + n > 9999) return -3;
        now = now.behind(n);
        return now.night;
    }

    int on(int n, int what) {
        boolean purpose = what >= 10 && what <= 21;
        if (what != 0 && !purpose && (what < 30 || noGuest(what - 30))) return -1;
        if (n < 0 || n > 60) return -2;
        Inn then = now.behind(n);
        if (what == 0) return then.meantByAll();
        return purpose ? then.cellar[what - 10] : then.guests.get(what - 30).means;
    }

    int lasts(int guest, int x) {
        if (noGuest(guest) || noPurpose(x)) return -1;
        if (!now.guests.get(guest).meansIt(x)) return -5;
        for (int n = 1; n <= 60; n++) {
            if (!now.alone(guest).behind(n).guests.get(0).meansIt(x)) return n;
        }
        return -5;
    }

    int decoys(int guest, int x, int n) {
        if (noGuest(guest) || noPurpose(x)) return -1;
        if (n < 1 || n > 6) return -2;
        int means = now.guests.get(guest).means;
        if (!now.guests.get(guest).meansIt(x)) return -5;
        for (int many = 0; many <= 12; many++) {
            for (int set = 0; set < 4096; set++) {
                if (Integer.bitCount(set) == many && (set & means) == 0) {
                    Inn other = now.alone(guest);
                    other.guests.get(0).means = means | set;
                    if (other.behind(n).guests.get(0).meansIt(x)) return set;
                }
            }
        }
        return -5;
    }

    int see(int guest, int n, int x, boolean means) {
        if (guest == -1) {
            now.seen.clear();
            return 0;
        }
        if (noGuest(guest) || noPurpose(x)) return -1;
        if (n < 0 || n > 12) return -2;
        if (now.seen.size() == 5) return -4;
        now.seen.add(new int[] {guest, n, x, means ? 1 : 0});
        return now.seen.size();
    }

    int meant(int guest, int what) {
        if (noGuest(guest) || what < 0 || what > 1) return -1;
        List<Integer> sets = new ArrayList<>();
        for (int set = 0; set < 4096; set++) {
            Inn other = now.alone(guest);
            other.guests.get(0).means = set;
            if (other.isSoAsSeen(guest)) sets.add(set);
        }
        return what == 0 ? sets.size() : sets.isEmpty() ? -5 : sets.get(0);
    }

    int can(int guest, int what) {
        if (noGuest(guest) || what < 0 || what > 1) return -1;
        List<Integer> numbers = new ArrayList<>();
        for (int v = 0; v < 10; v++) {
            Inn other = now.alone(guest);
            other.guests.get(0).v = v;
            if (other.isSoAsSeen(guest)) numbers.add(v);
        }
        return what == 0 ? numbers.size() : numbers.isEmpty() ? -5 : numbers.get(0);
    }

    long odds(int guest, int part) {
        if (noGuest(guest) || part < 0 || part > 1) return NO;
        int many = 0;
        for (int x = 0; x < 12; x++) {
            Inn other = now.copy();
            other.guests.get(guest).means |= 1 << x;
            many += other.prey(other.guests.get(guest)) != now.prey(now.guests.get(guest)) ? 1 : 0;
        }
        return lowest(many, 12, part);
    }

    long mean(int n, int part) {
        if (n < 0 || n > 60 || part < 0 || part > 1 || now.guests.isEmpty()) return NO;
        return lowest(now.behind(n).meantByAll(), now.guests.size(), part);
    }

    private static long lowest(int above, int below, int part) {
        for (int by = below; by > 1; by--) {
            if (above % by == 0 && below % by == 0) return lowest(above / by, below / by, part);
        }
        return part == 0 ? above : below;
    }

    int plan(int what, int guest) {
        if (what == -1) {
            now.plan.clear();
            return 0;
        }
        if (what < 0 || what > 3 || what != 0 && noGuest(guest)) return -1;
        if (now.plan.size() == 10) return -4;
        now.plan.add(new int[] {what, guest});
        return now.plan.size();
    }

    int ends(int what) {
        if (what < 0 || what > 1) return -1;
        Inn then = now.copy();
        for (int[] row : now.plan) {
            if (row[0] == 0) {
                then.passNight();
                continue;
            }
            One g = then.guests.get(row[1]);
            if (row[0] == 1) g.in = false;
            if (row[0] == 2) g.in = true;
            if (row[0] == 3) {
                g.means |= g.lost;
                g.lost = 0;
            }
        }
        int lies = 0;
        for (int often : then.cellar) lies += often;
        return what == 0 ? then.meantByAll() : lies;
    }

    int book(int purpose, int often) {
        if (purpose == -1) {
            now.book.clear();
            return 0;
        }
        if (noPurpose(purpose)) return -1;
        if (often < 0 || often > 99) return -2;
        if (now.book.size() == 8) return -4;
        now.book.add(new int[] {purpose, often});
        return now.book.size();
    }

    int looked() {
        for (int i = 0; i < now.book.size(); i++) {
            if (now.cellar[now.book.get(i)[0]] != now.book.get(i)[1]) return i;
        }
        return -5;
    }

    int judge(int tape, int i) {
        if (noTape(tape)) return -1;
        if (sorts[tape] == -1) return 100;
        if (sorts[tape] != 0) return -12;
        if (i < 0) return 100;
        for (int x = 0; x < 12; x++) {
            if ((long) i + x >= tapes[tape].length) return 100 + x;
            if (tapes[tape][i + x] != now.cellar[x]) return x;
        }
        return -5;
    }

    int image() {
        image = now.copy();
        return now.guests.size();
    }

    int undo() {
        if (image == null) return -3;
        now = image.copy();
        return now.guests.size();
    }

    int act(int guest, int act, int x) {
        trace = new ArrayList<>();
        if (noGuest(guest) || act < 0 || act > 2) return 0;
        One g = now.guests.get(guest);
        g.trace = trace;
        return act == 0 ? g.sleeps(x) : act == 1 ? g.wakes(x) : g.tells(x);
    }

    int trace(int i) {
        return i < 0 || i >= Math.min(20, trace.size()) ? -1 : trace.get(i);
    }

    int taken(int guest, int k) {
        if (k < 0 || k > 6) return -2;
        if (noGuest(guest)) return -11;
        Class<?> wanted = One.ofKind(k).getClass();
        One g = now.guests.get(guest);
        return wanted.isInstance(g) ? g.kind : -12;
    }

    int count(int what) {
        int[] all = {now.guests.size(), houses, now.seen.size(), now.plan.size(), now.book.size(), text.length(),
            trace.size()};
        return what < 0 || what > 6 ? -2 : all[what];
    }

    int tape(int tape, int sort, int n) {
        if (noTape(tape)) return -1;
        if (sort < -1 || sort > 4 || sort != -1 && n > 60) return -2;
        if (sort != -1 && n < 0) return -14;
        sorts[tape] = sort;
        tapes[tape] = new long[sort == -1 ? 0 : n];
        return 1;
    }

    int item(int tape, int i, long v) {
        if (noTape(tape)) return -1;
        if (sorts[tape] == -1) return -11;
        if (i < 0 || i >= tapes[tape].length) return -13;
        int[] bits = {8, 16, 32, 64};
        int up = sorts[tape] == 4 ? 0 : 64 - bits[sorts[tape]];
        tapes[tape][i] = sorts[tape] == 4 ? (v == 0 ? 0 : 1) : v << up >> up;
        return 1;
    }

    long read(int tape, int i) {
        return noTape(tape) || i < 0 || i >= tapes[tape].length ? NO : tapes[tape][i];
    }

    int shift(int tape, int i, int other, int j, int n) {
        if (noTape(tape) || noTape(other)) return -1;
        if (sorts[tape] == -1 || sorts[other] == -1) return -11;
        if (sorts[tape] != sorts[other]) return -12;
        boolean below = n < 0 || i < 0 || j < 0;
        if (below || (long) i + n > tapes[tape].length || (long) j + n > tapes[other].length) return -13;
        long[] before = tapes[tape].clone();
        for (int k = 0; k < n; k++) tapes[other][j + k] = before[i + k];
        return n;
    }
}
