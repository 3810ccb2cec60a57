import java.lang.reflect.Method;
import java.util.ArrayList;
import java.util.Arrays;
import java.util.HashMap;
import java.util.List;
import java.util.Map;

/** Long runs of calls, the same ones to the class and to the plain model, each answer compared. */
public final class AgainstNaiveTest {
    private static final int RUNS = 300;
    private static final int CALLS = 512;
    /** So many times 60 nights, and it is night 9960; each tenth run begins about then. */
    private static final int LATE = 166;

    /**
     * How often a call comes, its name, its arguments: a number n stands for mostly one below n; P a set of
     * purposes, B a boolean, L any long, X any int, O, T and N what of(), told() and on() are asked.
     */
    private static final String[] ASKED = {
        "10 guest 7 10 P", "50 of 6 O", "50 set 6 2 P", "8 weight 12 10", "10 stay 6 B", "30 redeem 6 12",
        "12 row 6 4 10", "2 feed 128", "1 house", "30 told T", "16 pass 4", "1 pass 61", "25 on 61 N",
        "20 lasts 6 12", "14 decoys 6 12 7", "30 see 6 13 12 B", "5 see -1 0 0 B", "4 meant 6 2", "24 can 6 2",
        "16 odds 6 2", "12 mean 61 2", "22 plan 4 6", "2 plan -1 6", "14 ends 2", "16 book 12 3", "2 book -1 5",
        "16 looked", "18 judge 2 3", "6 judge 6 10", "3 image", "2 undo", "24 act 6 3 X", "24 trace 14",
        "16 taken 6 7", "12 count 7", "10 tape 3 5 61", "6 tape 2 1 20", "3 tape 6 -1 X", "30 item 3 20 L",
        "16 read 3 20", "4 read 6 20", "16 shift 3 8 3 8 8", "4 shift 6 8 6 8 8", "1 shift 6 X 6 X X", "1 judge 6 X"};

    private final Map<String, Method> ours = new HashMap<>();
    private final Map<String, Method> plain = new HashMap<>();
    private final List<String[]> often = new ArrayList<>();
    private long seed;

    private AgainstNaiveTest() {
        for (String asked : ASKED) {
            String[] words = asked.split(" ");
            for (int i = 0; i < Integer.parseInt(words[0]); i++) {
                often.add(words);
            }
        }
        for (Method m : InnPurposes.class.getDeclaredMethods()) {
            if (java.lang.reflect.Modifier.isPublic(m.getModifiers())) {
                ours.put(m.getName(), m);
            }
        }
        for (Method m : NaiveInn.class.getDeclaredMethods()) {
            if (ours.containsKey(m.getName())) {
                plain.put(m.getName(), m);
            }
        }
    }

    /** A number below n; a fixed row of numbers, so that each run of the test is the same. */
    private int pick(int n) {
        seed = seed * 6364136223846793005L + 1442695040888963407L;
        return (int) ((seed >>> 33) % n);
    }

    private boolean once(int in) {
        return pick(in) == 0;
    }

    private int about(int n) {
        int[] off = {-1, -2, n, n + 1, Integer.MAX_VALUE, Integer.MIN_VALUE, 1 << 20};
        return once(30) ? off[pick(off.length)] : pick(n);
    }

    private int anyInt() {
        int[] some = {0, 1, -1, Integer.MAX_VALUE, Integer.MIN_VALUE, 65535, -70000};
        return once(2) ? some[pick(some.length)] : pick(Integer.MAX_VALUE) - pick(Integer.MAX_VALUE);
    }

    private Object argument(String kind) {
        switch (kind) {
            case "P": return once(2) ? about(4096) : pick(4096) & pick(4096);
            case "B": return once(2);
            case "L": return once(2) ? (long) pick(5) : (long) anyInt() * anyInt() + anyInt();
            case "X": return anyInt();
            case "O": return once(2) ? about(8) : 10 + about(12);
            case "T": return once(2) ? about(5) : once(3) ? 30 + about(12) : 10 + about(12);
            case "N": return once(4) ? about(1) : once(2) ? 30 + about(6) : 10 + about(12);
            default: return Integer.parseInt(kind) < 0 ? -1 : about(Math.max(1, Integer.parseInt(kind)));
        }
    }

    private String expression(int depth) {
        StringBuilder e = new StringBuilder(operand(depth));
        for (int i = pick(2) * pick(4); i > 0; i--) {
            e.append(once(2) ? '&' : '|').append(operand(depth));
        }
        return e.toString();
    }

    private String operand(int depth) {
        if (depth > 0 && once(3)) {
            return "(" + expression(depth - 1) + ")";
        }
        if (depth > 0 && once(4)) {
            return "!" + operand(depth - 1);
        }
        int letter = pick(6);
        int[] most = {6, 7, 10, 12, 10, 10};
        String n = once(20) ? "0" + pick(10) : String.valueOf(once(20) ? pick(100) : pick(most[letter] + 1));
        return "pkvxwn".charAt(letter) + "" + "<=>".charAt(pick(3)) + n;
    }

    private String clauses() {
        StringBuilder t = new StringBuilder();
        boolean many = once(10);
        for (int i = many ? 9 + pick(3) : 1 + pick(4); i > 0; i--) {
            if (many || once(4)) {
                t.append("keep ").append(once(4) ? 0 : pick(once(4) ? 100 : 8));
            } else {
                t.append(once(2) ? "fancy " : "leave ").append(pick(once(3) ? 100 : 20)).append(' ');
                t.append(expression(once(3) ? 5 : 2));
            }
            t.append(i > 1 ? ";" : "");
        }
        return t.toString();
    }

    private String text() {
        StringBuilder t = new StringBuilder(clauses());
        String signs = "!()&|;<=>pkvxwnfel 0123456789a";
        char sign = once(20) ? (char) pick(128) : signs.charAt(pick(signs.length()));
        int at = pick(t.length());
        switch (pick(12)) {
            case 0: t.setLength(at); break;
            case 1: t.deleteCharAt(at); break;
            case 2: t.insert(at, sign); break;
            case 3: t.setCharAt(at, sign); break;
            default: break;
        }
        return t.toString();
    }

    private void ask(Object x, Object y, String run, String name, Object... arguments) throws Exception {
        long got = ((Number) ours.get(name).invoke(x, arguments)).longValue();
        long want = ((Number) plain.get(name).invoke(y, arguments)).longValue();
        Due.is(run + name + Arrays.toString(arguments), got, want);
    }

    private void run(int number) throws Exception {
        seed = number * 7919L;
        InnPurposes x = new InnPurposes();
        NaiveInn y = new NaiveInn();
        int late = number % 10 == 0 ? LATE - pick(2) : 0;
        for (int i = 0; i < late; i++) {
            ask(x, y, "run " + number + ", late: ", "pass", 60);
        }
        int first = late + pick(7);
        for (int i = late; i < first; i++) {
            ask(x, y, "run " + number + ", first: ", "guest", pick(7), pick(10), pick(4096));
        }
        for (int call = first; call < CALLS;) {
            String where = "run " + number + ", call " + call + ": ";
            String text = once(60) ? text() : null;
            if (text != null && call + text.length() < CALLS) {
                for (char sign : text.toCharArray()) {
                    ask(x, y, where + text + ": ", "feed", (int) sign);
                }
                ask(x, y, where + text + ": ", "house");
                call += text.length() + 1;
            } else {
                String[] words = often.get(pick(often.size()));
                Object[] arguments = new Object[words.length - 2];
                for (int i = 0; i < arguments.length; i++) {
                    arguments[i] = argument(words[i + 2]);
                }
                ask(x, y, where, words[1], arguments);
                call++;
            }
        }
    }

    /** The fault alone, of many texts: each object reads six that stand at most. */
    private void faults(int many) {
        seed = 11;
        InnPurposes x = new InnPurposes();
        int houses = 0;
        int calls = 0;
        for (int i = 0; i < many; i++) {
            String text = text();
            String read = text.substring(0, Math.min(100, text.length()));
            calls += read.length() + 1;
            if (houses == 6 || calls > CALLS) {
                x = new InnPurposes();
                houses = 0;
                calls = read.length() + 1;
            }
            for (char sign : read.toCharArray()) {
                x.feed(sign);
            }
            int fault = NaiveInn.Text.fault(read);
            Due.is("house of " + read, x.house(), fault < 0 ? houses : -10 - fault);
            houses += fault < 0 ? 1 : 0;
        }
    }

    public static void main(String[] args) throws Exception {
        AgainstNaiveTest test = new AgainstNaiveTest();
        int runs = args.length > 0 ? Integer.parseInt(args[0]) : RUNS;
        for (int i = 1; i <= runs; i++) {
            test.run(i);
        }
        test.faults(20000);
        Due.finish();
    }
}
