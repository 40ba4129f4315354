import java.math.BigInteger;
import java.util.ArrayList;
import java.util.Collections;
import java.util.HashMap;
import java.util.HashSet;
import java.util.List;
import java.util.Map;
import java.util.Set;
import java.util.TreeSet;
import java.util.function.IntSupplier;

/**
 * The document once more, said the slow way: all ways, all orders, all sets are gone
 * through one by one. It has the face of CatWitness, and FuzzTest sets the two side by side.
 */
final class Oracle {
    private static final class No extends RuntimeException {
        private static final long serialVersionUID = 1;
        final int why;
        No(int why) { super(null, null, false, false); this.why = why; }
    }

    private static final class Fault extends RuntimeException {
        private static final long serialVersionUID = 1;
        final int kind;
        final int place;
        Fault(int kind, int place) { super(null, null, false, false); this.kind = kind; this.place = place; }
    }

    private static final class Halt extends RuntimeException {
        private static final long serialVersionUID = 1;
        final boolean left;
        Halt(boolean left) { super(null, null, false, false); this.left = left; }
    }

    private static final class R {
        int cue;
        String guilt = "whoever";
        String fedSign;
        int fed;
        String warmSign;
        int warm;
        Integer smell;
        R copy() {
            R r = new R();
            r.cue = cue; r.guilt = guilt; r.fedSign = fedSign; r.fed = fed;
            r.warmSign = warmSign; r.warm = warm; r.smell = smell;
            return r;
        }
    }

    private static final class P {
        boolean guilty;
        int fed;
        Set<Integer> smells = new TreeSet<>();
        String fate = "waits";
        int sat;
        P copy() {
            P p = new P();
            p.guilty = guilty; p.fed = fed; p.smells = new TreeSet<>(smells); p.fate = fate; p.sat = sat;
            return p;
        }
    }

    private static final class Step {
        String kind;
        String test;
        String sign;
        int a;
        int b;
        List<Step> inner;
    }

    private static final class State {
        List<String> smells = new ArrayList<>();
        List<String> cues = new ArrayList<>();
        List<String> names = new ArrayList<>();
        List<String> readerNames = new ArrayList<>();
        List<String> senses = new ArrayList<>();
        List<R> rules = new ArrayList<>();
        List<P> people = new ArrayList<>();
        List<int[]> readers = new ArrayList<>();
        List<int[]> words = new ArrayList<>();
        int warm;
        int sittings;
        List<Step> weeks;
        int stepCount;

        State copy() {
            State s = new State();
            s.smells.addAll(smells); s.cues.addAll(cues); s.names.addAll(names);
            s.readerNames.addAll(readerNames); s.senses.addAll(senses);
            for (R r : rules) s.rules.add(r.copy());
            for (P p : people) s.people.add(p.copy());
            for (int[] r : readers) s.readers.add(r.clone());
            for (int[] w : words) s.words.add(w.clone());
            s.warm = warm; s.sittings = sittings; s.weeks = weeks; s.stepCount = stepCount;
            return s;
        }
    }

    private State s = new State();
    private final List<State> marks = new ArrayList<>();
    private final long[][] trays = new long[4][];
    private final int[] sorts = new int[4];
    private final List<Integer> tape = new ArrayList<>();
    private int status;
    private BigInteger top = BigInteger.ZERO;
    private BigInteger bottom = BigInteger.ONE;
    private int[] fault = {-1, -1};
    private int[] lived;

    private static void need(boolean is, int why) {
        if (!is) throw new No(why);
    }

    private int call(IntSupplier body) {
        try {
            int v = body.getAsInt();
            status = 0;
            return v;
        } catch (No no) {
            status = no.why;
            return -1;
        }
    }

    private boolean does(Runnable body) {
        return call(() -> { body.run(); return 1; }) == 1;
    }

    private void tell(BigInteger a, BigInteger b) {
        BigInteger g = a.gcd(b);
        top = a.divide(g);
        bottom = b.divide(g);
    }

    private void tell(long a, long b) { tell(BigInteger.valueOf(a), BigInteger.valueOf(b)); }

    int status() { return status; }
    long top() { return top.longValueExact(); }
    long bottom() { return bottom.longValueExact(); }

    // ---- TRAYS.

    boolean tray(int tray, int sort, int many) {
        return does(() -> {
            need(tray >= 0 && tray <= 3 && sort >= 0 && sort <= 3 && many >= 0 && many <= 60, 1);
            trays[tray] = new long[many];
            sorts[tray] = sort;
        });
    }

    private void place(int tray, int place) {
        need(tray >= 0 && tray <= 3, 1);
        need(trays[tray] != null, 2);
        need(place >= 0 && place < trays[tray].length, 3);
    }

    boolean write(int tray, int place, long v) {
        return does(() -> {
            place(tray, place);
            int bits = 8 << sorts[tray];
            trays[tray][place] = v << 64 - bits >> 64 - bits;
        });
    }

    long read(int tray, int place) {
        return call(() -> { place(tray, place); return 0; }) < 0 ? -1 : trays[tray][place];
    }

    boolean pour(int from, int place, int to, int at, int many) {
        return does(() -> {
            need(from >= 0 && from <= 3 && to >= 0 && to <= 3 && place >= 0 && at >= 0 && many >= 0, 1);
            need(trays[from] != null && trays[to] != null, 2);
            need(sorts[from] == sorts[to], 8);
            need((long) place + many <= trays[from].length && (long) at + many <= trays[to].length, 3);
            System.arraycopy(trays[from], place, trays[to], at, many);
        });
    }

    // ---- texts.

    int feed(int a, int b, int c, int d, int e) {
        if (tape.size() > 880) return -1;
        for (int v : new int[] {a, b, c, d, e}) {
            for (int k = 3; k >= 0; k--) tape.add(v >>> 8 * k & 255);
        }
        return tape.size();
    }

    private static final Set<String> RESERVED = new HashSet<>(List.of(("smell sign means guilty clean nothing rule fed"
        + " warm smells person reader slips votes word sit feed rub wash night term any when shows held free loop"
        + " end stop").split(" ")));

    private final class Reader {
        final StringBuilder text = new StringBuilder();
        int at;
        String token;
        int place;

        Reader(int n) {
            for (int i = 0; i < n; i++) text.append((char) (int) tape.get(i));
            next();
        }

        void next() {
            while (at < text.length() && " \n".indexOf(text.charAt(at)) >= 0) at++;
            place = at;
            if (at == text.length()) { token = ""; return; }
            char c = text.charAt(at);
            String kin = c >= 'a' && c <= 'z' ? "abcdefghijklmnopqrstuvwxyz" : c >= '0' && c <= '9' ? "0123456789" : "";
            at++;
            while (!kin.isEmpty() && at < text.length() && kin.indexOf(text.charAt(at)) >= 0) at++;
            token = text.substring(place, at);
        }

        boolean isNumber() { return !token.isEmpty() && Character.isDigit(token.charAt(0)) && token.length() <= 4; }

        Fault no(int kind) {
            boolean known = token.isEmpty() || token.charAt(0) >= 'a' && token.charAt(0) <= 'z' || isNumber()
                || token.length() == 1 && ";<>=".contains(token);
            return new Fault(known ? kind : 1, place);
        }

        boolean isName() { return token.matches("[a-z]{1,8}") && !RESERVED.contains(token); }

        String name() {
            if (!isName()) throw no(2);
            String name = token;
            return name;
        }

        String newName(State c) {
            String name = name();
            if (c.smells.contains(name) || c.cues.contains(name) || c.names.contains(name) || c.readerNames.contains(name)) throw no(3);
            next();
            return name;
        }

        int oldName(List<String> of) {
            String name = name();
            if (!of.contains(name)) throw no(3);
            next();
            return of.indexOf(name);
        }

        int number(int least, int most) {
            if (!isNumber()) throw no(2);
            int v = Integer.parseInt(token);
            if (v < least || v > most) throw no(4);
            next();
            return v;
        }

        void word(String w) {
            if (!token.equals(w)) throw no(2);
            next();
        }

        boolean maybe(String w) {
            if (!token.equals(w)) return false;
            next();
            return true;
        }

        String oneOf(String... those) {
            for (String w : those) if (token.equals(w)) { next(); return w; }
            throw no(2);
        }
    }

    private State readCourt(Reader r) {
        State c = new State();
        while (!r.token.isEmpty()) {
            String part = r.token;
            Map<String, Integer> room = new HashMap<>();
            room.put("smell", 5 - c.smells.size());
            room.put("sign", 6 - c.cues.size());
            room.put("rule", 8 - c.rules.size());
            room.put("person", 6 - c.people.size());
            room.put("reader", 6 - c.readers.size());
            room.put("word", 10 - c.words.size());
            if (!room.containsKey(part)) throw r.no(2);
            if (room.get(part) == 0) throw r.no(6);
            r.next();
            if (part.equals("smell")) c.smells.add(r.newName(c));
            if (part.equals("sign")) readSign(r, c);
            if (part.equals("rule")) readRule(r, c);
            if (part.equals("person")) readPerson(r, c);
            if (part.equals("reader")) readReader(r, c);
            if (part.equals("word")) {
                int p = r.oldName(c.names);
                c.words.add(new int[] {p, r.oneOf("guilty", "clean").equals("guilty") ? 1 : 2});
            }
            r.word(";");
        }
        return c;
    }

    private void readSign(Reader r, State c) {
        c.cues.add(r.newName(c));
        r.word("means");
        c.senses.add(r.oneOf("guilty", "clean", "nothing"));
    }

    private void readRule(Reader r, State c) {
        R rule = new R();
        rule.cue = r.oldName(c.cues);
        if (r.token.equals("guilty") || r.token.equals("clean")) rule.guilt = r.oneOf("guilty", "clean");
        if (r.maybe("fed")) {
            rule.fedSign = r.oneOf("<", ">", "=");
            rule.fed = r.number(0, 99);
        }
        if (r.maybe("warm")) {
            rule.warmSign = r.oneOf("<", ">", "=");
            rule.warm = r.number(0, 9);
        }
        if (r.maybe("smells")) rule.smell = r.oldName(c.smells);
        c.rules.add(rule);
    }

    private void readPerson(Reader r, State c) {
        P p = new P();
        String name = r.newName(c);
        p.guilty = r.maybe("guilty");
        if (r.maybe("fed")) p.fed = r.number(0, 99);
        if (r.maybe("smells")) {
            while (r.isName()) {
                if (!c.smells.contains(r.token)) throw r.no(3);
                if (!p.smells.add(c.smells.indexOf(r.token))) throw r.no(5);
                r.next();
            }
        }
        c.names.add(name);
        c.people.add(p);
    }

    private void readReader(Reader r, State c) {
        String name = r.newName(c);
        r.word("slips");
        int slip = r.number(0, 16);
        r.word("votes");
        c.readers.add(new int[] {slip, r.number(1, 9)});
        c.readerNames.add(name);
    }

    private int stepsRead;

    private List<Step> readSteps(Reader r, State c, int depth) {
        List<Step> steps = new ArrayList<>();
        List<String> kinds = List.of("sit", "term", "feed", "rub", "wash", "night", "any", "when", "loop", "stop");
        while (kinds.contains(r.token)) {
            Step step = new Step();
            step.kind = r.token;
            boolean block = step.kind.equals("when") || step.kind.equals("loop");
            if (stepsRead == 30) throw r.no(6);
            if (block && depth == 3) throw r.no(7);
            stepsRead++;
            r.next();
            if (List.of("sit", "feed", "rub", "wash").contains(step.kind)) step.a = r.oldName(c.names);
            if (step.kind.equals("feed")) step.b = r.number(1, 9);
            if (step.kind.equals("rub") || step.kind.equals("wash")) step.b = r.oldName(c.smells);
            if (step.kind.equals("loop")) step.a = r.number(1, 99);
            if (step.kind.equals("when")) {
                step.test = r.oneOf("shows", "held", "free", "warm");
                if (step.test.equals("warm")) {
                    step.sign = r.oneOf("<", ">", "=");
                    step.a = r.number(0, 9);
                } else {
                    step.a = r.oldName(c.names);
                    if (step.test.equals("shows")) step.b = r.oldName(c.cues);
                }
            }
            r.word(";");
            if (block) {
                step.inner = readSteps(r, c, depth + 1);
                r.word("end");
                r.word(";");
            }
            steps.add(step);
        }
        if (depth == 0 && !r.token.isEmpty()) throw r.no(2);
        return steps;
    }

    int court(int n) {
        return call(() -> {
            need(n >= 0 && n <= tape.size(), 1);
            try {
                s = readCourt(new Reader(n));
                fault = new int[] {0, -1};
            } catch (Fault f) {
                fault = new int[] {f.kind, f.place};
            }
            tape.clear();
            need(fault[0] == 0, 9);
            return s.people.size();
        });
    }

    int weeks(int n) {
        return call(() -> {
            need(n >= 0 && n <= tape.size() && n <= 300, 1);
            try {
                stepsRead = 0;
                s.weeks = readSteps(new Reader(n), s, 0);
                s.stepCount = stepsRead;
                fault = new int[] {0, -1};
            } catch (Fault f) {
                fault = new int[] {f.kind, f.place};
            }
            tape.clear();
            need(fault[0] == 0, 9);
            return s.stepCount;
        });
    }

    int fault(int what) { return what == 0 || what == 1 ? fault[what] : -1; }

    private int fateSet(State c, String fate) {
        int set = 0;
        for (int p = 0; p < c.people.size(); p++) if (c.people.get(p).fate.equals(fate)) set += 1 << p;
        return set;
    }

    int told(int what) {
        return call(() -> {
            int guilty = 0;
            for (int p = 0; p < s.people.size(); p++) if (s.people.get(p).guilty) guilty += 1 << p;
            int votes = 0;
            for (int[] r : s.readers) votes += r[1];
            int[] all = {s.smells.size(), s.cues.size(), s.rules.size(), s.people.size(), s.readers.size(),
                s.words.size(), s.warm, s.sittings, fateSet(s, "waits"), fateSet(s, "free"), fateSet(s, "held"),
                guilty, votes};
            need(what >= 0 && what < all.length, 1);
            return all[what];
        });
    }

    /** What told() counts of SMELLS (0) to WORDS (5), without a call. */
    int countOf(int what) {
        return List.of(s.smells, s.cues, s.rules, s.people, s.readers, s.words).get(what).size();
    }

    private static void one(List<?> of, int i) { need(i >= 0 && i < of.size(), 1); }

    int sense(int cue) {
        return call(() -> {
            one(s.cues, cue);
            return List.of("nothing", "guilty", "clean").indexOf(s.senses.get(cue));
        });
    }

    int rule(int rule, int what) {
        return call(() -> {
            one(s.rules, rule);
            need(what >= 0 && what <= 4, 1);
            R r = s.rules.get(rule);
            need(what != 2 || r.fedSign != null, 6);
            need(what != 3 || r.warmSign != null, 6);
            need(what != 4 || r.smell != null, 6);
            return what == 0 ? r.cue : what == 1 ? List.of("whoever", "guilty", "clean").indexOf(r.guilt)
                : what == 2 ? r.fed : what == 3 ? r.warm : (int) r.smell;
        });
    }

    private static int number(Set<Integer> set) {
        int n = 0;
        for (int i : set) n += 1 << i;
        return n;
    }

    int person(int person, int what) {
        return call(() -> {
            one(s.people, person);
            P p = s.people.get(person);
            need(what >= 0 && what <= 4, 1);
            return what == 0 ? p.fed : what == 1 ? number(p.smells)
                : what == 2 ? List.of("waits", "free", "held").indexOf(p.fate) : what == 3 ? (p.guilty ? 1 : 0) : p.sat;
        });
    }

    int reader(int reader, int what) {
        return call(() -> {
            one(s.readers, reader);
            need(what == 0 || what == 1, 1);
            return s.readers.get(reader)[what];
        });
    }

    int word(int word, int what) {
        return call(() -> {
            one(s.words, word);
            need(what == 0 || what == 1, 1);
            return s.words.get(word)[what];
        });
    }

    // ---- what is done.

    private static boolean compares(int a, String sign, int b) {
        return sign == null || (sign.equals("<") ? a < b : sign.equals(">") ? a > b : a == b);
    }

    private static boolean bears(R r, boolean guilty, int fed, int warm, Set<Integer> smells) {
        if (r.guilt.equals("guilty") && !guilty || r.guilt.equals("clean") && guilty) return false;
        if (!compares(fed, r.fedSign, r.fed) || !compares(warm, r.warmSign, r.warm)) return false;
        return r.smell == null || smells.contains(r.smell);
    }

    private static int first(State c, boolean guilty, int fed, int warm, Set<Integer> smells) {
        for (int r = 0; r < c.rules.size(); r++) if (bears(c.rules.get(r), guilty, fed, warm, smells)) return r;
        return -1;
    }

    private static int shows(State c, boolean guilty, int fed, int warm, Set<Integer> smells) {
        int r = first(c, guilty, fed, warm, smells);
        return r < 0 ? c.cues.size() : c.rules.get(r).cue;
    }

    private static int shows(State c, int person, int warm) {
        P p = c.people.get(person);
        return shows(c, p.guilty, p.fed, warm, p.smells);
    }

    private static String meant(State c, int cue) { return cue == c.cues.size() ? "nothing" : c.senses.get(cue); }

    private static int sitting(State c, int person) {
        int cue = shows(c, person, c.warm);
        if (c.warm < 9) c.warm++;
        c.sittings++;
        c.people.get(person).sat++;
        return cue;
    }

    private static int hold(State c) {
        int freed = 0;
        for (int p = 0; p < c.people.size(); p++) {
            if (!c.people.get(p).fate.equals("waits")) continue;
            String meant = meant(c, sitting(c, p));
            if (meant.equals("clean")) { c.people.get(p).fate = "free"; freed += 1 << p; }
            if (meant.equals("guilty")) c.people.get(p).fate = "held";
        }
        return freed;
    }

    private static int waiting(State c) {
        int n = 0;
        for (P p : c.people) if (p.fate.equals("waits")) n++;
        return n;
    }

    int sit(int person) {
        return call(() -> {
            one(s.people, person);
            need(s.sittings < 9999, 4);
            return sitting(s, person);
        });
    }

    int term() {
        return call(() -> {
            need(s.sittings + waiting(s) <= 9999, 4);
            need(waiting(s) > 0, 7);
            return hold(s);
        });
    }

    int meal(int person, int often) {
        return call(() -> {
            one(s.people, person);
            need(often >= 1 && often <= 99, 1);
            P p = s.people.get(person);
            need(p.fed != 99, 7);
            return p.fed = Math.min(99, p.fed + often);
        });
    }

    boolean scent(int person, int smell, boolean is) {
        return does(() -> {
            one(s.people, person);
            one(s.smells, smell);
            Set<Integer> smells = s.people.get(person).smells;
            need(is ? smells.add(smell) : smells.remove(smell), 7);
        });
    }

    int night() {
        return call(() -> {
            need(s.warm != 0, 7);
            int was = s.warm;
            s.warm = 0;
            return was;
        });
    }

    int appeal(int person) {
        return call(() -> {
            one(s.people, person);
            P p = s.people.get(person);
            need(!p.fate.equals("waits"), 7);
            int was = p.fate.equals("free") ? 1 : 2;
            p.fate = "waits";
            return was;
        });
    }

    boolean blame(int person, boolean is) {
        return does(() -> {
            one(s.people, person);
            need(s.people.get(person).guilty != is, 7);
            s.people.get(person).guilty = is;
        });
    }

    boolean reread(int cue, int sense) {
        return does(() -> {
            one(s.cues, cue);
            need(sense >= 0 && sense <= 2, 1);
            s.senses.set(cue, List.of("nothing", "guilty", "clean").get(sense));
        });
    }

    int enact(int cue, int guilt, int smell) {
        return call(() -> {
            one(s.cues, cue);
            need(guilt >= 0 && guilt <= 2, 1);
            if (smell != 5) one(s.smells, smell);
            need(s.rules.size() < 8, 4);
            R r = new R();
            r.cue = cue;
            r.guilt = List.of("whoever", "guilty", "clean").get(guilt);
            if (smell != 5) r.smell = smell;
            s.rules.add(r);
            return s.rules.size() - 1;
        });
    }

    int repeal(int rule) {
        return call(() -> {
            one(s.rules, rule);
            s.rules.remove(rule);
            return s.rules.size();
        });
    }

    boolean strain(int reader, int slip) {
        return does(() -> {
            one(s.readers, reader);
            need(slip >= 0 && slip <= 16, 1);
            s.readers.get(reader)[0] = slip;
        });
    }

    // ---- what it shows.

    int cue(int person) { return cueAt(person, s.warm); }

    int cueAt(int person, int warm) {
        return call(() -> {
            one(s.people, person);
            need(warm >= 0 && warm <= 9, 1);
            int cue = shows(s, person, warm);
            need(cue < s.cues.size(), 6);
            return cue;
        });
    }

    int bears(int person) {
        return call(() -> {
            one(s.people, person);
            P p = s.people.get(person);
            int r = first(s, p.guilty, p.fed, s.warm, p.smells);
            need(r >= 0, 6);
            return r;
        });
    }

    int bearing(int person) {
        return call(() -> {
            one(s.people, person);
            P p = s.people.get(person);
            int set = 0;
            for (int r = 0; r < s.rules.size(); r++) if (bears(s.rules.get(r), p.guilty, p.fed, s.warm, p.smells)) set += 1 << r;
            return set;
        });
    }

    int shown(int cue) {
        return call(() -> {
            one(s.cues, cue);
            int set = 0;
            for (int p = 0; p < s.people.size(); p++) if (shows(s, p, s.warm) == cue) set += 1 << p;
            return set;
        });
    }

    int freeIn(int terms) {
        return call(() -> {
            need(terms >= 0 && terms <= 40, 1);
            State c = s.copy();
            for (int i = 0; i < terms; i++) hold(c);
            return fateSet(c, "free");
        });
    }

    int judgedIn(int person) {
        return call(() -> {
            one(s.people, person);
            need(s.people.get(person).fate.equals("waits"), 7);
            State c = s.copy();
            for (int i = 1; i <= 40; i++) {
                hold(c);
                if (!c.people.get(person).fate.equals("waits")) return i;
            }
            throw new No(6);
        });
    }

    // ---- whose guilt it was.

    /** All guilts, as sets of PEOPLE, that fit. */
    private List<Integer> ways(int tray, int n) {
        need(tray >= 0 && tray <= 3 && n >= 0 && n <= 20, 1);
        need(trays[tray] != null, 2);
        need(3 * n <= trays[tray].length, 3);
        for (int i = 0; i < n; i++) {
            long[] t = trays[tray];
            need(t[3 * i] >= 0 && t[3 * i] < s.people.size() && t[3 * i + 1] >= 0 && t[3 * i + 1] <= 9
                && t[3 * i + 2] >= 0 && t[3 * i + 2] <= s.cues.size(), 5);
        }
        List<Integer> ways = new ArrayList<>();
        for (int way = 0; way < 1 << s.people.size(); way++) {
            boolean fits = true;
            for (int i = 0; i < n; i++) {
                int p = (int) trays[tray][3 * i];
                P one = s.people.get(p);
                fits &= shows(s, (way >> p & 1) == 1, one.fed, (int) trays[tray][3 * i + 1], one.smells) == trays[tray][3 * i + 2];
            }
            if (fits) ways.add(way);
        }
        return ways;
    }

    int fits(int tray, int n) { return call(() -> ways(tray, n).size()); }

    private int guiltyIn(List<Integer> ways, int person) {
        int n = 0;
        for (int way : ways) n += way >> person & 1;
        return n;
    }

    int sure(int person, int tray, int n) {
        return call(() -> {
            one(s.people, person);
            List<Integer> ways = ways(tray, n);
            int guilty = guiltyIn(ways, person);
            need(!ways.isEmpty() && (guilty == 0 || guilty == ways.size()), 6);
            return guilty == 0 ? 0 : 1;
        });
    }

    boolean odds(int person, int tray, int n) {
        return does(() -> {
            one(s.people, person);
            List<Integer> ways = ways(tray, n);
            need(!ways.isEmpty(), 6);
            tell(guiltyIn(ways, person), ways.size());
        });
    }

    int ask(int tray, int n, int what) {
        return call(() -> {
            need(what == 0 || what == 1, 1);
            List<Integer> ways = ways(tray, n);
            need(ways.size() >= 2, 6);
            int[] best = null;
            int fewest = Integer.MAX_VALUE;
            for (int p = 0; p < s.people.size(); p++) {
                for (int warm = 0; warm <= 9; warm++) {
                    Map<Integer, Integer> parts = new HashMap<>();
                    P one = s.people.get(p);
                    for (int way : ways) parts.merge(shows(s, (way >> p & 1) == 1, one.fed, warm, one.smells), 1, Integer::sum);
                    int most = Collections.max(parts.values());
                    if (most < fewest) { fewest = most; best = new int[] {p, warm}; }
                }
            }
            return best[what];
        });
    }

    // ---- how to have it shown.

    private static Set<Integer> setOf(int number) {
        Set<Integer> set = new TreeSet<>();
        for (int i = 0; i < 31; i++) if ((number >> i & 1) == 1) set.add(i);
        return set;
    }

    /** Deeds, FEEDINGS, SMELLS. */
    private int[] plan(int person, int cue) {
        one(s.people, person);
        one(s.cues, cue);
        P p = s.people.get(person);
        int[] best = null;
        for (int deeds = 0; deeds <= 25 && best == null; deeds++) {
            for (int meals = 0; meals <= 20 && meals <= deeds && best == null; meals++) {
                for (int smells = 0; smells < 1 << s.smells.size() && best == null; smells++) {
                    boolean cost = meals + Integer.bitCount(smells ^ number(p.smells)) == deeds;
                    if (cost && p.fed + meals <= 99 && shows(s, p.guilty, p.fed + meals, s.warm, setOf(smells)) == cue) {
                        best = new int[] {deeds, meals, smells};
                    }
                }
            }
        }
        need(best != null, 6);
        return best;
    }

    int least(int person, int cue) { return call(() -> plan(person, cue)[0]); }

    int leastBy(int person, int cue, int what) {
        return call(() -> {
            need(what == 0 || what == 1, 1);
            return plan(person, cue)[1 + what];
        });
    }

    // ---- RULES and CUES.

    private int worlds(int rule, int cue, boolean guiltyOnly) {
        int n = 0;
        for (int guilty = guiltyOnly ? 1 : 0; guilty < 2; guilty++) {
            for (int smells = 0; smells < 1 << s.smells.size(); smells++) {
                Set<Integer> set = setOf(smells);
                for (int fed = 0; fed <= 20; fed++) {
                    for (int warm = 0; warm <= 9; warm++) {
                        int r = first(s, guilty == 1, fed, warm, set);
                        if (cue < 0 ? r == rule : r >= 0 && s.rules.get(r).cue == cue) n++;
                    }
                }
            }
        }
        return n;
    }

    int reach(int rule) {
        return call(() -> { one(s.rules, rule); return worlds(rule, -1, false); });
    }

    int idle() {
        return call(() -> {
            int set = 0;
            for (int r = 0; r < s.rules.size(); r++) if (worlds(r, -1, false) == 0) set += 1 << r;
            return set;
        });
    }

    boolean tells(int cue) {
        return does(() -> {
            one(s.cues, cue);
            int all = worlds(-1, cue, false);
            need(all > 0, 6);
            tell(worlds(-1, cue, true), all);
        });
    }

    int mute() { return call(() -> worlds(-1, -1, false)); }

    // ---- READERS.

    private BigInteger right(List<int[]> readers, int i, int forIt, int against) {
        if (i == readers.size()) return forIt > against ? BigInteger.ONE : BigInteger.ZERO;
        int[] r = readers.get(i);
        return right(readers, i + 1, forIt + r[1], against).multiply(BigInteger.valueOf(16 - r[0]))
            .add(right(readers, i + 1, forIt, against + r[1]).multiply(BigInteger.valueOf(r[0])));
    }

    private List<int[]> chosen(int set) {
        List<int[]> of = new ArrayList<>();
        for (int i : setOf(set)) of.add(s.readers.get(i));
        return of;
    }

    boolean verdict(int readers) {
        return does(() -> {
            need(readers > 0 && readers < 1 << s.readers.size(), 1);
            List<int[]> of = chosen(readers);
            tell(right(of, 0, 0, 0), BigInteger.valueOf(16).pow(of.size()));
        });
    }

    int sworn(int k) {
        return call(() -> {
            need(k >= 1 && k <= 6, 1);
            need(k <= s.readers.size(), 6);
            int best = -1;
            BigInteger most = null;
            for (int set = (1 << s.readers.size()) - 1; set > 0; set--) {
                if (Integer.bitCount(set) != k) continue;
                BigInteger how = right(chosen(set), 0, 0, 0);
                if (most == null || how.compareTo(most) >= 0) { most = how; best = set; }
            }
            return best;
        });
    }

    private static void orders(List<Integer> left, List<Integer> made, List<List<Integer>> into) {
        if (left.isEmpty()) into.add(new ArrayList<>(made));
        for (int i = 0; i < left.size(); i++) {
            List<Integer> rest = new ArrayList<>(left);
            made.add(rest.remove(i));
            orders(rest, made, into);
            made.remove(made.size() - 1);
        }
    }

    boolean power(int reader) {
        return does(() -> {
            one(s.readers, reader);
            List<Integer> all = new ArrayList<>();
            int total = 0;
            for (int i = 0; i < s.readers.size(); i++) { all.add(i); total += s.readers.get(i)[1]; }
            List<List<Integer>> orders = new ArrayList<>();
            orders(all, new ArrayList<>(), orders);
            int his = 0;
            for (List<Integer> order : orders) {
                int sum = 0;
                for (int i : order) {
                    boolean before = 2 * sum > total;
                    sum += s.readers.get(i)[1];
                    if (!before && 2 * sum > total && i == reader) his++;
                }
            }
            tell(his, orders.size());
        });
    }

    // ---- WORDS.

    private boolean clashes(int w) {
        int[] word = s.words.get(w);
        String meant = meant(s, shows(s, word[0], s.warm));
        return meant.equals("guilty") && word[1] == 2 || meant.equals("clean") && word[1] == 1;
    }

    int clash() {
        return call(() -> {
            int set = 0;
            for (int w = 0; w < s.words.size(); w++) if (clashes(w)) set += 1 << w;
            return set;
        });
    }

    private int strike() {
        int best = -1;
        for (int gone = 0; gone < 1 << s.words.size(); gone++) {
            boolean good = true;
            for (int a = 0; a < s.words.size(); a++) {
                if ((gone >> a & 1) == 1) continue;
                good &= !clashes(a);
                for (int b = 0; b < a; b++) {
                    boolean unlike = s.words.get(a)[0] == s.words.get(b)[0] && s.words.get(a)[1] != s.words.get(b)[1];
                    good &= !unlike || (gone >> b & 1) == 1;
                }
            }
            if (good && (best < 0 || Integer.bitCount(gone) < Integer.bitCount(best))) best = gone;
        }
        return best;
    }

    int struck() { return call(() -> Integer.bitCount(strike())); }
    int struckSet() { return call(this::strike); }

    // ---- orders, games.

    private int freeBy(List<Integer> order) {
        int warm = s.warm;
        int free = 0;
        for (int p : order) {
            if (meant(s, shows(s, p, warm)).equals("clean")) free++;
            warm = Math.min(9, warm + 1);
        }
        return free;
    }

    private List<Integer> bestOrder() {
        List<Integer> waits = new ArrayList<>();
        for (int p = 0; p < s.people.size(); p++) if (s.people.get(p).fate.equals("waits")) waits.add(p);
        List<List<Integer>> orders = new ArrayList<>();
        orders(waits, new ArrayList<>(), orders);
        List<Integer> best = null;
        for (List<Integer> order : orders) if (best == null || freeBy(order) > freeBy(best)) best = order;
        return best;
    }

    int best() { return call(() -> freeBy(bestOrder())); }

    int bestAt(int k) {
        return call(() -> {
            need(k >= 0, 1);
            List<Integer> order = bestOrder();
            need(k < order.size(), 6);
            return order.get(k);
        });
    }

    private int balance() {
        int sum = 0;
        for (int p = 0; p < s.people.size(); p++) {
            String meant = meant(s, shows(s, p, s.warm));
            sum += meant.equals("clean") ? 1 : meant.equals("guilty") ? -1 : 0;
        }
        return sum;
    }

    private int[] firstMove;

    private int play(int turn, int turns) {
        if (turn == turns) return balance();
        List<Integer> values = new ArrayList<>();
        List<int[]> moves = new ArrayList<>();
        for (int p = 0; p < s.people.size(); p++) {
            P one = s.people.get(p);
            if (one.fed < 99) {
                one.fed++;
                values.add(play(turn + 1, turns));
                moves.add(new int[] {p, 0});
                one.fed--;
            }
            for (int k = 0; k < s.smells.size(); k++) {
                boolean had = one.smells.contains(k);
                if (had) one.smells.remove(k); else one.smells.add(k);
                values.add(play(turn + 1, turns));
                moves.add(new int[] {p, 1 + k});
                if (had) one.smells.add(k); else one.smells.remove(k);
            }
        }
        values.add(play(turn + 1, turns));
        moves.add(null);
        int value = turn % 2 == 0 ? Collections.max(values) : Collections.min(values);
        if (turn == 0) firstMove = moves.get(values.indexOf(value));
        return value;
    }

    int game(int turns) {
        return call(() -> {
            need(turns >= 0 && turns <= 3, 1);
            return play(0, turns);
        });
    }

    int moveOf(int turns, int what) {
        return call(() -> {
            need(turns >= 1 && turns <= 3 && (what == 0 || what == 1), 1);
            play(0, turns);
            need(firstMove != null, 6);
            return firstMove[what];
        });
    }

    int copyFed(int tray) {
        return call(() -> {
            need(tray >= 0 && tray <= 3, 1);
            need(trays[tray] != null, 2);
            need(trays[tray].length >= s.people.size(), 3);
            for (int p = 0; p < s.people.size(); p++) trays[tray][p] = s.people.get(p).fed;
            return s.people.size();
        });
    }

    // ---- WEEKS.

    private final class Run {
        final State c;
        long seed;
        int steps;
        int missed;
        boolean left;

        Run(State c, int seed) {
            this.c = c;
            this.seed = seed;
            try {
                all(c.weeks);
            } catch (Halt halt) {
                left = halt.left;
            }
        }

        int draw(int n) {
            seed = (seed * 3181 + 11399) % 65536;
            return (int) (seed / 8 % n);
        }

        void all(List<Step> list) {
            for (Step step : list) one(step);
        }

        void one(Step step) {
            if (steps == 300) throw new Halt(true);
            steps++;
            boolean ofPerson = List.of("sit", "feed", "rub", "wash").contains(step.kind) || step.test != null && !step.test.equals("warm");
            P p = ofPerson ? c.people.get(step.a) : null;
            boolean done = true;
            switch (step.kind) {
                case "sit" -> { done = c.sittings < 9999; if (done) sitting(c, step.a); }
                case "term" -> { done = waiting(c) > 0 && c.sittings + waiting(c) <= 9999; if (done) hold(c); }
                case "feed" -> { done = p.fed < 99; p.fed = Math.min(99, p.fed + step.b); }
                case "rub" -> done = p.smells.add(step.b);
                case "wash" -> done = p.smells.remove(step.b);
                case "night" -> { done = c.warm > 0; c.warm = 0; }
                case "any" -> {
                    done = false;
                    if (!c.people.isEmpty()) {
                        P who = c.people.get(draw(c.people.size()));
                        int often = draw(4);
                        done = often > 0 && who.fed < 99;
                        who.fed = Math.min(99, who.fed + often);
                    }
                }
                case "when" -> {
                    boolean is = switch (step.test) {
                        case "shows" -> shows(c, step.a, c.warm) == step.b;
                        case "held" -> p.fate.equals("held");
                        case "free" -> p.fate.equals("free");
                        default -> compares(c.warm, step.sign, step.a);
                    };
                    if (is) all(step.inner);
                }
                case "loop" -> { for (int i = 0; i < step.a; i++) all(step.inner); }
                default -> throw new Halt(false);
            }
            if (!done) missed++;
        }
    }

    int live(int seed) {
        return call(() -> {
            need(seed >= 0 && seed <= 9999, 1);
            need(s.weeks != null, 6);
            State was = s.copy();
            Run run = new Run(s, seed);
            int free = 0;
            int held = 0;
            for (int p = 0; p < s.people.size(); p++) {
                String fate = s.people.get(p).fate;
                if (fate.equals(was.people.get(p).fate)) continue;
                if (fate.equals("free")) free++; else held++;
            }
            lived = new int[] {run.missed, s.sittings - was.sittings, free, held, run.left ? 1 : 0};
            return run.steps;
        });
    }

    int lived(int what) {
        return call(() -> {
            need(what >= 0 && what <= 4, 1);
            need(lived != null, 6);
            return lived[what];
        });
    }

    boolean mean(int seed, int many) {
        return does(() -> {
            need(seed >= 0 && many >= 1 && many <= 20 && seed <= 9999 && seed + many - 1 <= 9999, 1);
            need(s.weeks != null, 6);
            int total = 0;
            for (int i = 0; i < many; i++) {
                State c = s.copy();
                new Run(c, seed + i);
                for (P p : c.people) total += p.fed;
            }
            tell(total, many);
        });
    }

    // ---- MARKS.

    int mark() {
        return call(() -> {
            need(marks.size() < 3, 4);
            marks.add(s.copy());
            return marks.size();
        });
    }

    int undo() {
        return call(() -> {
            need(!marks.isEmpty(), 6);
            s = marks.remove(marks.size() - 1);
            return marks.size();
        });
    }
}
