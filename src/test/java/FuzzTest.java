import java.lang.reflect.InvocationTargetException;
import java.lang.reflect.Method;
import java.util.ArrayList;
import java.util.HashMap;
import java.util.List;
import java.util.Map;
import java.util.Random;
import java.util.Set;

/** CatWitness and the Oracle get the same calls; every answer, STATUS and FRACTION must be alike. */
public final class FuzzTest {
    private static final int RUNS = 6000;
    /** What later calls of an object answer is free. */
    private static final int CALLS_MOST = 512;
    /** A call, its STATUS, the FRACTION's top and bottom. */
    private static final int CALLS_TO_COMPARE = 4;
    private static final Set<String> FRACTIONS = Set.of("odds", "tells", "verdict", "power", "mean");

    /** What kind of number each argument is; see pick(). */
    private static final String[] CALLABLE = {
        "tray tSm", "write tlv", "read tl", "pour tltll", "fault w", "told W", "sense c", "rule rw", "person pw",
        "reader iw", "word dw", "sit p", "term", "meal po", "scent psb", "night", "appeal p", "blame pb", "reread cw",
        "enact cws", "repeal r", "strain ix", "cue p", "cueAt pa", "bears p", "bearing p", "shown c", "freeIn T",
        "judgedIn p", "fits tn", "sure ptn", "odds ptn", "ask tnw", "least pc", "leastBy pcw", "reach r", "idle",
        "tells c", "mute", "verdict z", "sworn k", "power i", "clash", "struck", "struckSet", "best", "bestAt k",
        "game g", "moveOf gw", "copyFed t", "live e", "lived w", "mean en", "mark", "undo"};

    private static final Map<String, Method> HERE = methodsOf(CatWitness.class);
    private static final Map<String, Method> THERE = methodsOf(Oracle.class);

    private final Random random;
    private final CatWitness x = new CatWitness();
    private final Oracle o = new Oracle();
    private final List<String> done = new ArrayList<>();
    private int calls = 0;
    private static int wrong = 0;
    private static final Map<String, int[]> SEEN = new HashMap<>();

    private FuzzTest(long seed) {
        random = new Random(seed);
    }

    public static void main(String[] args) {
        for (int run = 0; run < RUNS && wrong < 5; run++) {
            new FuzzTest(run).run(run);
        }
        // A fuzz that never comes to a STATUS tests nothing of it.
        for (String callable : CALLABLE) {
            int[] seen = SEEN.getOrDefault(callable.split(" ")[0], new int[10]);
            if (seen[0] < 100) {
                System.out.println(callable + " answered with STATUS 0 only " + seen[0] + " times");
                wrong++;
            }
        }
        if (args.length > 1) {
            SEEN.forEach((name, seen) -> System.out.println(name + " " + java.util.Arrays.toString(seen)));
        }
        System.out.println(wrong == 0 ? "all answers are alike" : wrong + " answers are not alike");
        if (wrong != 0) {
            System.exit(1);
        }
    }

    private static Map<String, Method> methodsOf(Class<?> type) {
        Map<String, Method> map = new HashMap<>();
        for (Method method : type.getDeclaredMethods()) {
            if (method.getDeclaringClass() == type && !method.isSynthetic()
                && !java.lang.reflect.Modifier.isPrivate(method.getModifiers())) {
                map.put(method.getName(), method);
            }
        }
        return map;
    }

    private void run(int run) {
        if (run % 40 == 0) {
            wear();
        }
        for (int i = 0; i < CALLS_MOST && !isOver() && wrong < 5; i++) {
            int kind = random.nextInt(40);
            if (i == 0 && run % 10 != 0 || kind == 0 && random.nextInt(4) == 0) {
                text("court", courtText());
            } else if (i == 1 && run % 5 != 0 || kind == 1) {
                text("weeks", weeksText());
            } else if (kind == 2) {
                threes();
            } else {
                step();
            }
        }
    }

    /** Comes near the 9,999th SITTING. */
    private void wear() {
        text("court", "sign ca means nothing; smell sa; rule ca; person pa; person pb fed 97; person pc;");
        text("weeks", "loop 99; sit pb; term; term; end;");
        for (int i = 0; i < 14; i++) {
            compare("live", 7);
            compare("told", 7);
        }
        text("weeks", "loop 20; sit pb; end; any; term; sit pa;");
        for (int i = 0; i < 25; i++) {
            compare("live", i);
            compare("told", 7);
            compare("lived", 0);
            compare("lived", 1);
            compare(i % 2 == 0 ? "term" : "night");
            compare("sit", 2);
            compare("freeIn", 3);
        }
    }

    private void step() {
        String[] callable = CALLABLE[random.nextInt(CALLABLE.length)].split(" ");
        // The oracle plays all games to their ends.
        if (callable[0].equals("game") || callable[0].equals("moveOf")) {
            if (random.nextInt(3) != 0) {
                return;
            }
        }
        String kinds = callable.length > 1 ? callable[1] : "";
        Object[] arguments = new Object[kinds.length()];
        for (int i = 0; i < arguments.length; i++) {
            arguments[i] = pick(kinds.charAt(i));
        }
        compare(callable[0], arguments);
    }

    private Object pick(char kind) {
        int[] odd = {-1, -2, Integer.MIN_VALUE, Integer.MAX_VALUE, 5, 6, 7, 8, 9, 10, 20, 21, 40, 41, 60, 61, 99, 100, 9999, 10000};
        if ("vb".indexOf(kind) < 0 && random.nextInt(25) == 0) {
            return odd[random.nextInt(odd.length)];
        }
        switch (kind) {
            case 'b': return random.nextBoolean();
            case 'v': return value();
            case 't': return random.nextInt(4);
            case 'S': return random.nextInt(4);
            case 'm': return random.nextInt(61);
            case 'l': return random.nextInt(30);
            case 'w': return random.nextInt(random.nextInt(3) == 0 ? 5 : 2);
            case 'W': return random.nextInt(14);
            case 'c': return of(1);
            case 'r': return of(2);
            case 'p': return of(3);
            case 'i': return of(4);
            case 'd': return of(5);
            case 's': return random.nextInt(4) == 0 ? 5 : of(0);
            case 'k': return random.nextInt(7);
            case 'z': return random.nextInt((1 << known(4)) + 1);
            case 'o': return 1 + random.nextInt(random.nextInt(5) == 0 ? 99 : 4);
            case 'x': return random.nextInt(18);
            case 'a': return random.nextInt(10);
            case 'T': return random.nextInt(12);
            case 'n': return random.nextInt(6);
            case 'g': return random.nextInt(100) == 0 || random.nextInt(8) == 0 && hasFew() ? 3 : random.nextInt(3);
            case 'e': return random.nextInt(10000);
            default: throw new IllegalArgumentException("" + kind);
        }
    }

    /** One of those told by what; at times the first that is none. */
    private int of(int what) {
        int count = known(what);
        return random.nextInt(Math.max(1, count + (random.nextInt(12) == 0 ? 1 : 0)));
    }

    private boolean hasFew() {
        return known(3) * (1 + known(0)) <= 12;
    }

    private int known(int what) {
        return o.countOf(what);
    }

    private boolean isOver() {
        return calls + CALLS_TO_COMPARE > CALLS_MOST;
    }

    private long value() {
        switch (random.nextInt(4)) {
            case 0: return random.nextLong();
            case 1: return random.nextInt(300) - 150;
            case 2: return (random.nextInt(3) - 1L) << random.nextInt(64);
            default: return random.nextInt(6);
        }
    }

    /** A TRAY with threes that mostly can be. */
    private void threes() {
        int tray = random.nextInt(4);
        int n = 1 + random.nextInt(5);
        compare("tray", tray, random.nextInt(4), 3 * n);
        for (int i = 0; i < n; i++) {
            compare("write", tray, 3 * i, (long) random.nextInt(Math.max(1, known(3)) + (random.nextInt(30) == 0 ? 1 : 0)));
            compare("write", tray, 3 * i + 1, (long) random.nextInt(random.nextInt(30) == 0 ? 12 : 10));
            compare("write", tray, 3 * i + 2, (long) random.nextInt(known(1) + (random.nextInt(30) == 0 ? 2 : 1)));
        }
        int person = random.nextInt(Math.max(1, known(3)));
        for (int k = 0; k <= n; k++) {
            compare("fits", tray, k);
            compare("sure", person, tray, k);
            compare("odds", person, tray, k);
            compare("ask", tray, k, 0);
            compare("ask", tray, k, 1);
        }
    }

    private void text(String call, String text) {
        int[] padded = new int[(text.length() + 19) / 20 * 20];
        for (int i = 0; i < text.length(); i++) {
            padded[i] = text.charAt(i);
        }
        for (int i = 0; i < padded.length; i += 20) {
            Object[] five = new Object[5];
            for (int k = 0; k < 5; k++) {
                int at = i + 4 * k;
                five[k] = padded[at] << 24 | padded[at + 1] << 16 | padded[at + 2] << 8 | padded[at + 3];
            }
            compare("feed", five);
        }
        done.add(text);
        compare(call, random.nextInt(40) == 0 ? padded.length + 1 : text.length());
        compare("fault", 0);
        compare("fault", 1);
        if (o.status() == 1) {
            compare(call, 0);
        }
    }

    // ---- texts, good ones for the most.

    private String courtText() {
        int smells = some(5);
        int cues = some(6);
        int people = some(6);
        int readers = some(6);
        int less = random.nextInt(3);
        List<String> parts = new ArrayList<>();
        for (int i = 0; i < smells; i++) parts.add("smell s" + (char) ('a' + i) + " ;");
        for (int i = 0; i < cues; i++) parts.add("sign c" + (char) ('a' + i) + " means " + one("guilty", "clean", "nothing") + " ;");
        for (int i = 0; i < people; i++) {
            StringBuilder part = new StringBuilder("person p" + (char) ('a' + i));
            if (random.nextBoolean()) part.append(" guilty");
            if (random.nextBoolean()) part.append(" fed ").append(random.nextInt(random.nextInt(4) == 0 ? 100 : 8));
            if (random.nextBoolean()) {
                part.append(" smells");
                for (int k = 0; k < smells; k++) if (random.nextBoolean()) part.append(" s").append((char) ('a' + k));
            }
            parts.add(part + " ;");
        }
        for (int i = 0; i < readers; i++) {
            parts.add("reader r" + (char) ('a' + i) + " slips " + random.nextInt(17) + " votes " + (1 + random.nextInt(9)) + " ;");
        }
        int rules = cues == 0 ? 0 : random.nextInt(9);
        for (int i = 0; i < rules; i++) parts.add("rule c" + (char) ('a' + random.nextInt(cues)) + ruleBehind(smells, less) + " ;");
        int words = people == 0 ? 0 : random.nextInt(11);
        for (int i = 0; i < words; i++) parts.add("word p" + (char) ('a' + random.nextInt(people)) + " " + one("guilty", "clean") + " ;");
        return joined(parts, 900);
    }

    /** Seldom none, for then most calls only tell that there is none such. */
    private int some(int most) {
        return random.nextInt(10) == 0 ? 0 : 1 + random.nextInt(most);
    }

    private String ruleBehind(int smells, int less) {
        StringBuilder rule = new StringBuilder();
        if (random.nextInt(2 + less) == 0) rule.append(one(" guilty", " clean"));
        if (random.nextInt(2 + less) == 0) rule.append(" fed ").append(one("<", ">", "=")).append(" ").append(random.nextInt(random.nextInt(5) == 0 ? 100 : 10));
        if (random.nextInt(2 + less) == 0) rule.append(" warm ").append(one("<", ">", "=")).append(" ").append(random.nextInt(10));
        if (smells > 0 && random.nextInt(2 + less) == 0) rule.append(" smells s").append((char) ('a' + random.nextInt(smells)));
        return rule.toString();
    }

    private String weeksText() {
        List<String> parts = new ArrayList<>();
        int people = Math.max(1, known(3));
        int smells = Math.max(1, known(0));
        int cues = Math.max(1, known(1));
        int open = 0;
        int steps = random.nextInt(random.nextInt(8) == 0 ? 33 : 14);
        for (int i = 0; i < steps; i++) {
            String p = " p" + (char) ('a' + random.nextInt(people));
            String s = " s" + (char) ('a' + random.nextInt(smells));
            String c = " c" + (char) ('a' + random.nextInt(cues));
            switch (random.nextInt(14)) {
                case 0: parts.add("sit" + p + " ;"); break;
                case 1: parts.add("term ;"); break;
                case 2: parts.add("feed" + p + " " + (1 + random.nextInt(9)) + " ;"); break;
                case 3: if (known(0) > 0) parts.add("rub" + p + s + " ;"); break;
                case 4: if (known(0) > 0) parts.add("wash" + p + s + " ;"); break;
                case 5: parts.add("night ;"); break;
                case 6:
                case 7: parts.add("any ;"); break;
                case 8: if (open < 3 || random.nextInt(9) == 0) { parts.add("loop " + (1 + random.nextInt(random.nextInt(4) == 0 ? 99 : 5)) + " ;"); open++; } break;
                case 9: if (open < 3 || random.nextInt(9) == 0) { parts.add("when" + one(" held" + p, " free" + p, " warm " + one("<", ">", "=") + " " + random.nextInt(10), " shows" + p + c) + " ;"); open++; } break;
                case 10: if (random.nextInt(4) == 0) parts.add("stop ;"); break;
                default: if (open > 0) { parts.add("end ;"); open--; } break;
            }
        }
        for (; open > 0; open--) parts.add("end ;");
        return joined(parts, 300);
    }

    private String one(String... of) {
        return of[random.nextInt(of.length)];
    }

    /** At times a part is lost, comes twice, or a token of it is another; blanks come and go. */
    private String joined(List<String> parts, int most) {
        if (random.nextInt(3) == 0 && !parts.isEmpty()) {
            int at = random.nextInt(parts.size());
            switch (random.nextInt(3)) {
                case 0: parts.remove(at); break;
                case 1: parts.add(random.nextInt(parts.size()), parts.get(at)); break;
                default: parts.set(at, spoilt(parts.get(at))); break;
            }
        }
        StringBuilder text = new StringBuilder();
        for (String part : parts) {
            String put = random.nextInt(3) == 0 ? part.replace(" ;", ";") : part;
            String behind = random.nextInt(3) == 0 ? " " : random.nextInt(2) == 0 ? "\n" : "";
            if (text.length() + put.length() + behind.length() <= most) {
                text.append(put).append(behind);
            }
        }
        if (random.nextInt(20) == 0) text.setLength(random.nextInt(text.length() + 1));
        return text.toString();
    }

    private String spoilt(String part) {
        String[] tokens = part.split(" ");
        int at = random.nextInt(tokens.length);
        String[] with = {"", ";", "guilty", "clean", "fed 3", "warm < 2", "smells", "sa", "pa", "ca", "ra", "zz", "abcdefgh",
            "abcdefghi", "00012", "0012", "99", "100", "10", "17", "16", "0", "< 5", "=", "end", "stop", "!", "A", "\t", "means",
            "nothing", "\u00e9", "sa sa", "votes", "slips", "when", "loop"};
        tokens[at] = with[random.nextInt(with.length)];
        return String.join(" ", tokens);
    }

    // ---- both together.

    private void compare(String name, Object... arguments) {
        if (isOver()) {
            return;
        }
        done.add(name + java.util.Arrays.toString(arguments));
        Object mine = answer(HERE.get(name), x, arguments);
        Object due = answer(THERE.get(name), o, arguments);
        int[] seen = SEEN.computeIfAbsent(name, key -> new int[10]);
        seen[Math.max(0, Math.min(9, o.status()))]++;
        boolean alike = String.valueOf(mine).equals(String.valueOf(due)) && x.status() == o.status();
        calls += 2;
        if (FRACTIONS.contains(name) || random.nextInt(8) == 0) {
            alike &= x.top() == o.top() && x.bottom() == o.bottom();
            calls += 2;
        }
        if (!alike) {
            wrong++;
            System.out.println(String.join("\n", done));
            System.out.println("answered " + mine + " status " + x.status() + " " + x.top() + "/" + x.bottom()
                + ", due is " + due + " status " + o.status() + " " + o.top() + "/" + o.bottom());
        }
    }

    private static Object answer(Method method, Object on, Object[] arguments) {
        try {
            return method.invoke(on, arguments);
        } catch (IllegalAccessException e) {
            throw new IllegalStateException(e);
        } catch (InvocationTargetException e) {
            return "thrown: " + e.getCause();
        }
    }
}
