import java.lang.reflect.Method;
import java.util.ArrayList;
import java.util.HashMap;
import java.util.List;
import java.util.Map;

/**
 * Paragraph 5: "With another STATUS than 0 a call gives NONE, or false, and changes nothing else (but court(), weeks()
 * with 9 the tape, and what fault() tells)." Of two objects with the same calls one is asked what it must refuse;
 * all that both answer behind that must be alike.
 */
public final class RefusalTest {
    private static final Map<String, Method> METHODS = new HashMap<>();

    static {
        for (Method method : CatWitness.class.getDeclaredMethods()) {
            METHODS.put(method.getName(), method);
        }
    }

    public static void main(String[] args) {
        Check.bounds(RefusalTest.class);
    }

    private static final String COURT = "smell s; smell t; sign c means clean; sign d means guilty; sign e means nothing; rule c guilty fed < 5 warm < 9 smells s;"
        + " rule d clean warm > 1; rule e warm = 0; person p guilty smells s; person q fed 99; person u fed 7 smells s t; reader r slips 3 votes 4;"
        + " reader v slips 5 votes 2; word q guilty; word p clean; word q clean;";
    private static final String WEEKS = "any; sit p; when warm < 5; term; end; loop 3; any; night; end; rub q t;";

    /** A COURT of three, lived in, with WEEKS, a MARK, TRAYS 0 and 1, a FRACTION, bytes on the tape, no FAULT. */
    private static CatWitness rich() {
        CatWitness x = Check.with(COURT);
        x.mark();
        Check.weeks(x, WEEKS);
        x.live(17);
        x.night();
        x.tray(0, 1, 9);
        x.tray(1, 3, 4);
        for (int i = 0; i < 9; i++) {
            x.write(0, i, i % 3);
        }
        x.write(1, 0, 7);
        x.verdict(3);
        Check.feed(x, "person a; person b;");
        return x;
    }

    /** The same without WEEKS, MARKS, anything lived, but with a FAULT; all of them WAIT. */
    private static CatWitness poor() {
        CatWitness x = Check.with("smell s; sign c means clean; sign d means guilty; rule c fed > 3; person p guilty; person q fed 99 smells s;");
        Check.none(x, Check.court(x, "person a fed 100;"), 9);
        x.tray(0, 0, 6);
        x.tray(2, 0, 60);
        x.write(0, 0, 1);
        x.write(0, 2, 2);
        x.write(0, 5, 3);
        return x;
    }

    /** As much as there can be: RULES, MARKS, SITTINGS, bytes on the tape. */
    private static CatWitness full() {
        CatWitness x = Check.worn("sign c means clean; person p; person q;" + "rule c fed = 9;".repeat(8), "p", 9998);
        x.mark();
        x.mark();
        x.mark();
        while (x.feed(0x20202020, 0x20202020, 0x20202020, 0x20202020, 0x20202020) >= 0) {
            x.status();
        }
        return x;
    }

    /** All that an object answers; at the last it is used up. */
    private static List<Long> all(CatWitness x) {
        List<Long> told = new ArrayList<>(List.of(x.top(), x.bottom(), (long) x.fault(0), (long) x.fault(1)));
        for (int what = 0; what < 5; what++) {
            told.add((long) x.lived(what));
        }
        for (int tray = 0; tray < 4; tray++) {
            for (int place = 0; place < 10; place++) {
                told.add(x.read(tray, place));
                told.add((long) x.status());
            }
        }
        court(x, told);
        told.add((long) x.live(23));
        court(x, told);
        for (int i = 0; i < 4; i++) {
            told.add((long) x.undo());
            told.add((long) x.told(3));
            told.add((long) x.told(7));
            told.add((long) x.freeIn(2));
        }
        told.add((long) x.feed(0x706572, 0, 0, 0, 0));
        told.add((long) x.court(20));
        told.add((long) x.fault(0));
        told.add((long) x.fault(1));
        told.add((long) x.told(3));
        return told;
    }

    private static void court(CatWitness x, List<Long> told) {
        for (int what = 0; what <= 12; what++) {
            told.add((long) x.told(what));
        }
        for (int one = 0; one < 3; one++) {
            for (int what = 0; what < 5; what++) {
                told.add((long) x.rule(one, what));
                told.add((long) x.person(one, what));
            }
            for (int what = 0; what < 2; what++) {
                told.add((long) x.reader(one, what));
                told.add((long) x.word(one, what));
            }
            told.add((long) x.sense(one));
            told.add((long) x.bearing(one));
        }
        told.add((long) x.freeIn(3));
        told.add((long) x.idle());
        told.add(x.mean(5, 3) ? x.top() : -1L);
        told.add(x.bottom());
    }

    private static long answer(CatWitness x, String name, Object... arguments) {
        try {
            Object answer = METHODS.get(name).invoke(x, arguments);
            return answer instanceof Boolean ? ((Boolean) answer ? 1 : CatWitness.NONE) : ((Number) answer).longValue();
        } catch (ReflectiveOperationException e) {
            throw new IllegalStateException(name, e);
        }
    }

    private static CatWitness made(char which) {
        return which == 'r' ? rich() : which == 'p' ? poor() : full();
    }

    private static void refuses(char which, int status, String name, Object... arguments) {
        CatWitness x = made(which);
        CatWitness y = made(which);
        Check.none(x, answer(x, name, arguments), status);
        List<Long> mine = all(x);
        List<Long> due = all(y);
        for (int i = 0; i < due.size(); i++) {
            if (!mine.get(i).equals(due.get(i))) {
                System.out.println(which + " " + name + java.util.Arrays.toString(arguments) + " changed answer " + i);
                Check.is(mine.get(i), due.get(i));
                return;
            }
        }
        Check.is(mine.size(), due.size());
    }

    /** STATUS 1, by what is just too small, and just too large. */
    static void boundStatus1() {
        Object[][] calls = {{"tray", 4, 0, 1}, {"tray", 0, 4, 1}, {"tray", 0, 0, 61}, {"tray", 0, 0, -1}, {"write", 4, 0, 1L}, {"write", -1, 0, 1L},
            {"read", 4, 0}, {"pour", 0, 0, 4, 0, 1}, {"pour", 0, 0, 1, 0, -1}, {"pour", 0, -1, 0, 0, 1}, {"court", 21}, {"court", -1}, {"weeks", 21}, {"weeks", -1},
            {"told", 13}, {"told", -1}, {"sense", 3}, {"rule", 3, 0}, {"rule", 0, 5}, {"person", 3, 0}, {"person", 0, 5}, {"reader", 2, 0},
            {"reader", 0, 2}, {"word", 3, 0}, {"word", 0, 2}, {"sit", 3}, {"sit", -1}, {"meal", 3, 1}, {"meal", 0, 0}, {"meal", 0, 100},
            {"scent", 3, 0, true}, {"scent", 0, 2, true}, {"scent", 0, -1, false}, {"appeal", 3}, {"blame", 3, true}, {"blame", -1, false},
            {"reread", 3, 0}, {"reread", 0, 3}, {"reread", 0, -1}, {"enact", 3, 0, 0}, {"enact", 0, 3, 0}, {"enact", 0, 0, 2}, {"enact", 0, 0, 6},
            {"repeal", 3}, {"repeal", -1}, {"strain", 2, 0}, {"strain", 0, 17}, {"strain", 0, -1}, {"cue", 3}, {"cueAt", 3, 0}, {"cueAt", 0, 10},
            {"bears", 3}, {"bearing", 3}, {"shown", 3}, {"freeIn", 41}, {"freeIn", -1}, {"judgedIn", 3}, {"fits", 4, 0}, {"fits", 0, 21}, {"fits", 0, -1},
            {"sure", 3, 0, 0}, {"sure", 0, 0, 21}, {"odds", 3, 0, 0}, {"odds", 0, 4, 0}, {"ask", 0, 0, 2}, {"ask", 0, 21, 0}, {"least", 3, 0}, {"least", 0, 3},
            {"leastBy", 0, 0, 2}, {"reach", 3}, {"tells", 3}, {"verdict", 0}, {"verdict", 4}, {"verdict", -1}, {"sworn", 0}, {"sworn", 7}, {"power", 2},
            {"bestAt", -1}, {"game", 4}, {"game", -1}, {"moveOf", 0, 0}, {"moveOf", 4, 0}, {"moveOf", 1, 2}, {"copyFed", 4}, {"live", 10000}, {"live", -1},
            {"lived", 5}, {"mean", 9981, 20}, {"mean", 0, 0}, {"mean", 0, 21}, {"mean", -1, 1}};
        for (Object[] call : calls) {
            refuses('r', 1, (String) call[0], java.util.Arrays.copyOfRange(call, 1, call.length));
        }
        refuses('f', 1, "weeks", 301);
        refuses('f', 1, "court", 901);
    }

    /** STATUS 2, 3, 5, 8. */
    static void boundStatusOfTrays() {
        refuses('r', 2, "write", 2, 0, 1L);
        refuses('r', 2, "read", 3, 0);
        refuses('r', 2, "pour", 0, 0, 2, 0, 1);
        refuses('r', 2, "pour", 2, 0, 0, 0, 1);
        refuses('r', 2, "fits", 2, 0);
        refuses('r', 2, "sure", 0, 2, 0);
        refuses('r', 2, "odds", 0, 2, 0);
        refuses('r', 2, "ask", 2, 0, 0);
        refuses('r', 2, "copyFed", 2);
        refuses('r', 3, "write", 0, 9, 1L);
        refuses('r', 3, "write", 0, -1, 1L);
        refuses('r', 3, "read", 1, 4);
        refuses('r', 3, "pour", 0, 5, 0, 0, 5);
        refuses('r', 3, "pour", 0, 0, 0, 5, 5);
        refuses('r', 3, "fits", 1, 2);
        refuses('r', 3, "sure", 0, 1, 2);
        refuses('r', 3, "odds", 0, 1, 2);
        refuses('r', 3, "ask", 1, 2, 0);
        refuses('r', 5, "fits", 1, 1);
        refuses('r', 5, "sure", 0, 1, 1);
        refuses('r', 5, "odds", 0, 1, 1);
        refuses('r', 5, "ask", 1, 1, 0);
        refuses('r', 8, "pour", 0, 0, 1, 0, 1);
        CatWitness x = made('p');
        Check.none(x, x.copyFed(3), 2);
        // A TRAY that is too short for all takes none.
        CatWitness y = new CatWitness();
        Check.court(y, "person p fed 3; person q fed 4;");
        y.tray(0, 0, 1);
        Check.none(y, y.copyFed(0), 3);
        Check.gave(y, y.read(0, 0), 0);
    }

    /** STATUS 4. */
    static void boundStatus4() {
        refuses('f', 4, "term");
        refuses('f', 4, "enact", 0, 0, 5);
        refuses('f', 4, "mark");
        CatWitness x = full();
        CatWitness y = full();
        x.sit(0);
        y.sit(0);
        Check.none(x, x.sit(0), 4);
        Check.is(all(x).equals(all(y)), true);
    }

    /** STATUS 6. */
    static void boundStatus6() {
        refuses('r', 6, "rule", 1, 2);
        refuses('r', 6, "rule", 2, 4);
        refuses('r', 6, "bestAt", 3);
        refuses('r', 6, "sworn", 3);
        refuses('p', 6, "cue", 0);
        refuses('p', 6, "cueAt", 0, 9);
        refuses('p', 6, "bears", 0);
        refuses('p', 6, "judgedIn", 0);
        refuses('p', 6, "least", 0, 1);
        refuses('p', 6, "leastBy", 0, 1, 0);
        refuses('p', 6, "tells", 1);
        refuses('p', 6, "sworn", 1);
        refuses('p', 6, "bestAt", 2);
        refuses('p', 6, "live", 0);
        refuses('p', 6, "lived", 0);
        refuses('p', 6, "mean", 0, 1);
        refuses('p', 6, "undo");
        refuses('p', 6, "sure", 0, 0, 0);
    }

    /** STATUS 7. */
    static void boundStatus7() {
        refuses('p', 7, "meal", 1, 1);
        refuses('p', 7, "scent", 1, 0, true);
        refuses('p', 7, "scent", 0, 0, false);
        refuses('p', 7, "night");
        refuses('p', 7, "appeal", 0);
        refuses('p', 7, "blame", 0, true);
        refuses('p', 7, "blame", 1, false);
        CatWitness x = Check.with("sign c means clean; rule c; person p;");
        CatWitness y = Check.with("sign c means clean; rule c; person p;");
        x.term();
        y.term();
        Check.none(x, x.term(), 7);
        Check.none(x, x.judgedIn(0), 7);
        Check.is(all(x).equals(all(y)), true);
    }

    /** STATUS 9: the tape is empty, fault() tells of it; all else stays. */
    static void boundStatus9() {
        for (String text : new String[] {"smell a; person b guilty fed 9; word b clean; word b", "zz", "person p; person p;"}) {
            for (String call : new String[] {"court", "weeks"}) {
                CatWitness x = Check.with(COURT);
                CatWitness y = Check.with(COURT);
                for (CatWitness each : new CatWitness[] {x, y}) {
                    each.mark();
                    Check.weeks(each, WEEKS);
                    each.live(17);
                    each.tray(0, 1, 9);
                    each.verdict(3);
                }
                Check.feed(x, text);
                Check.none(x, answer(x, call, text.length()), 9);
                Check.is(x.fault(0) > 0, true);
                Check.is(x.fault(1) >= 0, true);
                // Both are told of the same FAULT.
                Check.feed(x, "!");
                Check.feed(y, "!");
                Check.none(x, x.weeks(1), 9);
                Check.none(y, y.weeks(1), 9);
                Check.is(all(x).equals(all(y)), true);
            }
        }
    }

    /** Numbers far off, and those that a wrap-around, or a shift by 32, would make good ones: STATUS 1 of each call, wherever they stand. */
    static void boundFarOff() {
        String[] calls = {"tray t.n", "told .", "sense .", "rule .w", "person .w", "reader .w", "word .w", "sit .", "meal .o", "scent ..b", "appeal .",
            "blame .b", "reread .w", "enact .w.", "repeal .", "strain .w", "cue .", "cueAt .w", "bears .", "bearing .", "shown .", "freeIn n", "judgedIn .",
            "fits tn", "sure .tn", "odds .tn", "ask tnw", "least ..", "leastBy ..w", "reach .", "tells .", "verdict n", "sworn w", "power .",
            "game w", "moveOf ww", "copyFed t", "live n", "lived w", "mean nn", "court n", "weeks n", "write tpv", "read tp"};
        for (String call : calls) {
            String name = call.substring(0, call.indexOf(' '));
            String kinds = call.substring(call.indexOf(' ') + 1);
            for (int at = 0; at < kinds.length(); at++) {
                char kind = kinds.charAt(at);
                if ("bvp".indexOf(kind) >= 0) {
                    continue;
                }
                int[] odd = kind == 'n' ? new int[] {Integer.MIN_VALUE, -1 << 16, -2, -1, 1 << 16, 1 << 30, Integer.MAX_VALUE}
                    : kind == 'o' ? new int[] {Integer.MIN_VALUE, -256, -1, 0, 256, 257, 1 << 16, Integer.MAX_VALUE}
                    : new int[] {Integer.MIN_VALUE, Integer.MIN_VALUE + 1, -32, -2, -1, 31, 32, 33, 64, 256, 257, 1 << 16, 1 << 30, Integer.MAX_VALUE - 1, Integer.MAX_VALUE};
                CatWitness x = rich();
                for (int far : odd) {
                    Object[] arguments = new Object[kinds.length()];
                    for (int i = 0; i < arguments.length; i++) {
                        char each = kinds.charAt(i);
                        arguments[i] = i == at ? (Object) far : each == 'b' ? (Object) true : each == 'v' ? (Object) 1L : each == 'o' ? 1 : (Object) 0;
                    }
                    if (name.equals("mean") && at == 0) {
                        arguments[1] = 1;
                    } else if (name.equals("moveOf") && at == 1) {
                        arguments[0] = 1;
                    }
                    Check.none(x, answer(x, name, arguments), 1);
                }
            }
        }
    }

    /** bestAt() of what is above all: 6; places far off: 3. */
    static void boundFarOffOthers() {
        CatWitness x = rich();
        for (int far : new int[] {6, 31, 32, 33, 64, 256, 1 << 16, 1 << 30, Integer.MAX_VALUE}) {
            Check.none(x, x.bestAt(far), 6);
            Check.none(x, x.bestAt(-far), 1);
            Check.none(x, x.write(0, far + 9 < 0 ? far : far + 9, 1), 3);
            Check.none(x, x.read(0, -far), 3);
            Check.none(x, x.pour(0, far + 4 < 0 ? far : far + 4, 0, 0, 6), 3);
            Check.none(x, x.pour(0, 0, 0, far + 4 < 0 ? far : far + 4, 6), 3);
            Check.none(x, x.pour(0, 0, 0, 0, far + 4 < 0 ? far : far + 4), 3);
            Check.is(x.fault(far), -1);
            Check.is(x.fault(-far), -1);
        }
    }
}
