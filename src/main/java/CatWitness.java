/**
 * A court that takes a cat for a witness. README.md tells how it is used.
 *
 * Nothing is made after the constructor: all rows are kept and used again, and every
 * index, divisor and reference is looked at before it is used.
 */
public final class CatWitness {
    public static final int NONE = -1;

    // What STATUS can be besides 0.
    private static final int BAD_NUMBER = 1;
    private static final int TRAY_MISSING = 2;
    private static final int NO_PLACE = 3;
    private static final int TOO_MANY = 4;
    private static final int BAD_CONTENT = 5;
    private static final int NONE_SUCH = 6;
    private static final int CANNOT_BE = 7;
    private static final int UNLIKE_SORTS = 8;
    private static final int FAULTY = 9;

    // The parts of a COURT: as told() counts them, and the keywords that begin them.
    private static final int SMELL = 0;
    private static final int SIGN = 1;
    private static final int RULE = 2;
    private static final int PERSON = 3;
    private static final int READER = 4;
    private static final int WORD = 5;
    private static final int KINDS = 6;
    private static final int SMELLS_MOST = 5;
    private static final int CUES_MOST = 6;
    private static final int RULES_MOST = 8;
    private static final int PEOPLE_MOST = 6;
    private static final int READERS_MOST = 6;
    private static final int WORDS_MOST = 10;
    private static final int[] MOST = {5, 6, 8, 6, 6, 10};
    private static final int NAMES_OF_A_KIND = 6;

    // The other keywords, in the order of KEYWORDS.
    private static final int MEANS = 6;
    private static final int GUILTY_WORD = 7;
    private static final int CLEAN_WORD = 8;
    private static final int NOTHING_WORD = 9;
    private static final int FED = 10;
    private static final int WARM = 11;
    private static final int SMELLS = 12;
    private static final int SLIPS = 13;
    private static final int VOTES = 14;
    private static final int SIT = 15;
    private static final int TERM = 16;
    private static final int FEED = 17;
    private static final int RUB = 18;
    private static final int WASH = 19;
    private static final int NIGHT = 20;
    private static final int ANY = 21;
    private static final int WHEN = 22;
    private static final int LOOP = 23;
    private static final int STOP = 24;
    private static final int SHOWS = 25;
    private static final int HELD_WORD = 26;
    private static final int FREE_WORD = 27;
    private static final int END = 28;
    private static final int KEYWORD_COUNT = 29;
    private static final String KEYWORDS =
        "smell sign rule person reader word means guilty clean nothing fed warm smells slips votes sit term feed rub wash night any when loop stop shows held free end ";

    // TOKENS that are no keywords; the signs are told by their bytes, which lie above these.
    private static final int NAME = 29;
    private static final int LONG_WORD = 30;
    private static final int NUMBER = 31;
    private static final int TEXT_END = 32;
    private static final int BAD_TOKEN = 33;

    private static final int WHOEVER = 0;
    private static final int GUILTY = 1;
    private static final int CLEAN = 2;

    private static final int WAITS = 0;
    private static final int FREE = 1;
    private static final int HELD = 2;

    private static final int TRAYS = 4;
    private static final int TRAY_LENGTH = 60;
    private static final int TAPE_LENGTH = 900;
    private static final int WEEKS_LENGTH = 300;
    private static final int FED_MOST = 99;
    private static final int WARM_MOST = 9;
    private static final int SLIP_MOST = 16;
    private static final int VOTES_MOST = 9;
    private static final int SITTINGS_MOST = 9999;
    private static final int SEED_MOST = 9999;
    private static final int TERMS_MOST = 40;
    private static final int THREES_MOST = 20;
    private static final int MEALS_MOST = 20;
    private static final int TURNS_MOST = 3;
    private static final int MARKS_MOST = 3;
    private static final int SEEDS_MOST = 20;
    private static final int NO_SMELL_ASKED = 5;
    private static final int ALL_SMELLS = 31;

    private Court now = new Court();
    private Court spare = new Court();
    private final Court[] marks = new Court[MARKS_MOST];
    private int markCount = 0;
    private final Tray[] trays = new Tray[TRAYS];
    private final Tray noTray = new Tray();
    private final Tokens tokens = new Tokens();
    private final Parser parser = new Parser(tokens);
    private final Worlds worlds = new Worlds();
    private final Order order = new Order();
    private final Game game = new Game();
    private final Life life = new Life();
    private int status = 0;
    private long top = 0;
    private long bottom = 1;
    private int faultKind = NONE;
    private int faultPlace = NONE;
    // Who can't have been GUILTY, who can't have been not, by the threes read latest.
    private int notGuilty = 0;
    private int notClean = 0;

    public CatWitness() {
        for (int i = 0; i < marks.length; i++) {
            marks[i] = new Court();
        }
        for (int i = 0; i < trays.length; i++) {
            trays[i] = new Tray();
        }
    }

    public int status() {
        return status;
    }

    public long top() {
        return top;
    }

    public long bottom() {
        return bottom;
    }

    // ---- TRAYS.

    public boolean tray(int tray, int sort, int many) {
        if (!within(tray, TRAYS) || !within(sort, 4) || !within(many, TRAY_LENGTH + 1)) {
            return denied(BAD_NUMBER);
        }
        trayAt(tray).renew(sort, many);
        return done();
    }

    public boolean write(int tray, int place, long v) {
        int refusal = placeRefusal(tray, place);
        if (refusal != 0) {
            return denied(refusal);
        }
        trayAt(tray).putNumber(place, v);
        return done();
    }

    public long read(int tray, int place) {
        int refusal = placeRefusal(tray, place);
        if (refusal != 0) {
            return refused(refusal);
        }
        status = 0;
        return trayAt(tray).numberAt(place);
    }

    public boolean pour(int from, int place, int to, int at, int many) {
        if (!within(from, TRAYS) || !within(to, TRAYS) || place < 0 || at < 0 || many < 0) {
            return denied(BAD_NUMBER);
        }
        Tray source = trayAt(from);
        Tray goal = trayAt(to);
        if (source.isMissing() || goal.isMissing()) {
            return denied(TRAY_MISSING);
        }
        if (source.sort != goal.sort) {
            return denied(UNLIKE_SORTS);
        }
        if (!source.hasRun(place, many) || !goal.hasRun(at, many)) {
            return denied(NO_PLACE);
        }
        goal.takeRun(source, place, at, many);
        return done();
    }

    // ---- texts.

    public int feed(int a, int b, int c, int d, int e) {
        if (!tokens.hasRoom(20)) {
            return NONE;
        }
        tokens.addInt(a);
        tokens.addInt(b);
        tokens.addInt(c);
        tokens.addInt(d);
        tokens.addInt(e);
        return tokens.byteCount;
    }

    public int court(int n) {
        if (!within(n, tokens.byteCount + 1)) {
            return refused(BAD_NUMBER);
        }
        boolean taken = parser.readCourt(n, spare);
        if (taken) {
            Court old = now;
            now = spare;
            spare = old;
        }
        return textRead(taken, now.countOf(PERSON));
    }

    public int weeks(int n) {
        if (!within(n, tokens.byteCount + 1) || n > WEEKS_LENGTH) {
            return refused(BAD_NUMBER);
        }
        boolean taken = parser.readWeeks(n, now, spare.weeks);
        if (taken) {
            now.weeks.copyFrom(spare.weeks);
        }
        return textRead(taken, now.weeks.count);
    }

    public int fault(int what) {
        return what == 0 ? faultKind : what == 1 ? faultPlace : NONE;
    }

    public int told(int what) {
        if (within(what, KINDS)) {
            return given(now.countOf(what));
        }
        switch (what) {
            case 6: return given(now.warm);
            case 7: return given(now.sittings);
            case 8: return given(now.setOfFate(WAITS));
            case 9: return given(now.setOfFate(FREE));
            case 10: return given(now.setOfFate(HELD));
            case 11: return given(now.guiltySet());
            case 12: return given(now.votesOf(setOfAll(now.countOf(READER))));
            default: return refused(BAD_NUMBER);
        }
    }

    public int sense(int cue) {
        if (!now.has(SIGN, cue)) {
            return refused(BAD_NUMBER);
        }
        return given(now.senseOf(cue));
    }

    public int rule(int rule, int what) {
        if (!now.has(RULE, rule) || !within(what, 5)) {
            return refused(BAD_NUMBER);
        }
        int asked = now.ruleAt(rule).partOf(what);
        return asked == NONE ? refused(NONE_SUCH) : given(asked);
    }

    public int person(int person, int what) {
        if (!now.has(PERSON, person)) {
            return refused(BAD_NUMBER);
        }
        Person one = now.personAt(person);
        switch (what) {
            case 0: return given(one.fed);
            case 1: return given(one.smells);
            case 2: return given(one.fate);
            case 3: return given(one.guilt == GUILTY ? 1 : 0);
            case 4: return given(one.sittings);
            default: return refused(BAD_NUMBER);
        }
    }

    public int reader(int reader, int what) {
        if (!now.has(READER, reader) || !within(what, 2)) {
            return refused(BAD_NUMBER);
        }
        return given(cell(what == 0 ? now.slips : now.votes, reader));
    }

    public int word(int word, int what) {
        if (!now.has(WORD, word) || !within(what, 2)) {
            return refused(BAD_NUMBER);
        }
        return given(cell(what == 0 ? now.wordPersons : now.wordGuilts, word));
    }

    // ---- what is done.

    public int sit(int person) {
        if (!now.has(PERSON, person)) {
            return refused(BAD_NUMBER);
        }
        if (!now.hasRoomFor(1)) {
            return refused(TOO_MANY);
        }
        return given(now.sitBefore(person));
    }

    public int term() {
        int waiting = Integer.bitCount(now.setOfFate(WAITS));
        if (!now.hasRoomFor(waiting)) {
            return refused(TOO_MANY);
        }
        if (waiting == 0) {
            return refused(CANNOT_BE);
        }
        return given(now.holdTerm());
    }

    public int meal(int person, int often) {
        if (!now.has(PERSON, person) || often < 1 || often > FED_MOST) {
            return refused(BAD_NUMBER);
        }
        if (!now.feedPerson(person, often)) {
            return refused(CANNOT_BE);
        }
        return given(now.personAt(person).fed);
    }

    public boolean scent(int person, int smell, boolean is) {
        if (!now.has(PERSON, person) || !now.has(SMELL, smell)) {
            return denied(BAD_NUMBER);
        }
        return now.setSmell(person, smell, is) ? done() : denied(CANNOT_BE);
    }

    public int night() {
        int ahead = now.warm;
        return now.coolDown() ? given(ahead) : refused(CANNOT_BE);
    }

    public int appeal(int person) {
        if (!now.has(PERSON, person)) {
            return refused(BAD_NUMBER);
        }
        Person one = now.personAt(person);
        int ahead = one.fate;
        if (ahead == WAITS) {
            return refused(CANNOT_BE);
        }
        one.fate = WAITS;
        return given(ahead);
    }

    public boolean blame(int person, boolean is) {
        if (!now.has(PERSON, person)) {
            return denied(BAD_NUMBER);
        }
        Person one = now.personAt(person);
        int guilt = is ? GUILTY : CLEAN;
        if (one.guilt == guilt) {
            return denied(CANNOT_BE);
        }
        one.guilt = guilt;
        return done();
    }

    public boolean reread(int cue, int sense) {
        if (!now.has(SIGN, cue) || !within(sense, 3)) {
            return denied(BAD_NUMBER);
        }
        put(now.senses, cue, sense);
        return done();
    }

    public int enact(int cue, int guilt, int smell) {
        boolean smellCanBe = smell == NO_SMELL_ASKED || now.has(SMELL, smell);
        if (!now.has(SIGN, cue) || !within(guilt, 3) || !smellCanBe) {
            return refused(BAD_NUMBER);
        }
        if (now.isFull(RULE)) {
            return refused(TOO_MANY);
        }
        int added = now.addOne(RULE);
        Rule rule = now.ruleAt(added);
        rule.renew(cue);
        rule.guilt = guilt;
        rule.smell = smell == NO_SMELL_ASKED ? NONE : smell;
        return given(added);
    }

    public int repeal(int rule) {
        if (!now.has(RULE, rule)) {
            return refused(BAD_NUMBER);
        }
        now.dropRule(rule);
        return given(now.countOf(RULE));
    }

    public boolean strain(int reader, int slip) {
        if (!now.has(READER, reader) || !within(slip, SLIP_MOST + 1)) {
            return denied(BAD_NUMBER);
        }
        put(now.slips, reader, slip);
        return done();
    }

    // ---- what it shows.

    public int cue(int person) {
        return cueAt(person, now.warm);
    }

    public int cueAt(int person, int warm) {
        if (!now.has(PERSON, person) || !within(warm, WARM_MOST + 1)) {
            return refused(BAD_NUMBER);
        }
        int shown = now.cueBefore(person, warm);
        return now.has(SIGN, shown) ? given(shown) : refused(NONE_SUCH);
    }

    public int bears(int person) {
        if (!now.has(PERSON, person)) {
            return refused(BAD_NUMBER);
        }
        Person one = now.personAt(person);
        int first = now.ruleFor(one.guilt, one.fed, now.warm, one.smells);
        return first == NONE ? refused(NONE_SUCH) : given(first);
    }

    public int bearing(int person) {
        if (!now.has(PERSON, person)) {
            return refused(BAD_NUMBER);
        }
        Person one = now.personAt(person);
        int set = 0;
        for (int r = 0; r < now.countOf(RULE); r++) {
            if (now.ruleAt(r).bearsOn(one.guilt, one.fed, now.warm, one.smells)) {
                set |= 1 << r;
            }
        }
        return given(set);
    }

    public int shown(int cue) {
        if (!now.has(SIGN, cue)) {
            return refused(BAD_NUMBER);
        }
        int set = 0;
        for (int p = 0; p < now.countOf(PERSON); p++) {
            if (now.cueBefore(p, now.warm) == cue) {
                set |= 1 << p;
            }
        }
        return given(set);
    }

    public int freeIn(int terms) {
        if (!within(terms, TERMS_MOST + 1)) {
            return refused(BAD_NUMBER);
        }
        spare.copyFrom(now);
        for (int i = 0; i < terms; i++) {
            spare.holdTerm();
        }
        return given(spare.setOfFate(FREE));
    }

    public int judgedIn(int person) {
        if (!now.has(PERSON, person)) {
            return refused(BAD_NUMBER);
        }
        if (now.personAt(person).fate != WAITS) {
            return refused(CANNOT_BE);
        }
        spare.copyFrom(now);
        for (int i = 1; i <= TERMS_MOST; i++) {
            spare.holdTerm();
            if (spare.personAt(person).fate != WAITS) {
                return given(i);
            }
        }
        return refused(NONE_SUCH);
    }

    // ---- whose guilt it was.

    public int fits(int tray, int n) {
        int refusal = readThrees(tray, n);
        return refusal != 0 ? refused(refusal) : given(ways());
    }

    public int sure(int person, int tray, int n) {
        int refusal = now.has(PERSON, person) ? readThrees(tray, n) : BAD_NUMBER;
        if (refusal != 0) {
            return refused(refusal);
        }
        if (ways() == 0 || isOpen(person)) {
            return refused(NONE_SUCH);
        }
        return given(isIn(notClean, person) ? 1 : 0);
    }

    public boolean odds(int person, int tray, int n) {
        int refusal = now.has(PERSON, person) ? readThrees(tray, n) : BAD_NUMBER;
        if (refusal != 0) {
            return denied(refusal);
        }
        if (ways() == 0) {
            return denied(NONE_SUCH);
        }
        if (isOpen(person)) {
            return tellFraction(1, 2);
        }
        return tellFraction(isIn(notClean, person) ? 1 : 0, 1);
    }

    public int ask(int tray, int n, int what) {
        int refusal = within(what, 2) ? readThrees(tray, n) : BAD_NUMBER;
        if (refusal != 0) {
            return refused(refusal);
        }
        if (ways() < 2) {
            return refused(NONE_SUCH);
        }
        int best = bestQuestion();
        return given(what == 0 ? best / (WARM_MOST + 1) : best % (WARM_MOST + 1));
    }

    // ---- how to have it shown.

    public int least(int person, int cue) {
        if (!now.has(PERSON, person) || !now.has(SIGN, cue)) {
            return refused(BAD_NUMBER);
        }
        int plan = leastPlan(person, cue);
        return plan == NONE ? refused(NONE_SUCH) : given(plan >> 10);
    }

    public int leastBy(int person, int cue, int what) {
        if (!now.has(PERSON, person) || !now.has(SIGN, cue) || !within(what, 2)) {
            return refused(BAD_NUMBER);
        }
        int plan = leastPlan(person, cue);
        if (plan == NONE) {
            return refused(NONE_SUCH);
        }
        return given(what == 0 ? plan >> 5 & 31 : plan & 31);
    }

    // ---- RULES and CUES.

    public int reach(int rule) {
        if (!now.has(RULE, rule)) {
            return refused(BAD_NUMBER);
        }
        worlds.countIn(now);
        return given(cell(worlds.all, rule));
    }

    public int idle() {
        worlds.countIn(now);
        int set = 0;
        for (int r = 0; r < now.countOf(RULE); r++) {
            if (cell(worlds.all, r) == 0) {
                set |= 1 << r;
            }
        }
        return given(set);
    }

    public boolean tells(int cue) {
        if (!now.has(SIGN, cue)) {
            return denied(BAD_NUMBER);
        }
        worlds.countIn(now);
        int all = 0;
        int guilty = 0;
        for (int r = 0; r < now.countOf(RULE); r++) {
            if (now.ruleAt(r).cue == cue) {
                all += cell(worlds.all, r);
                guilty += cell(worlds.guilty, r);
            }
        }
        return all == 0 ? denied(NONE_SUCH) : tellFraction(guilty, all);
    }

    public int mute() {
        worlds.countIn(now);
        return given(worlds.unshown);
    }

    // ---- READERS.

    public boolean verdict(int readers) {
        if (readers < 1 || readers > setOfAll(now.countOf(READER))) {
            return denied(BAD_NUMBER);
        }
        return tellFraction(now.rightWeight(readers), 1L << 4 * Integer.bitCount(readers));
    }

    public int sworn(int k) {
        if (k < 1 || k > READERS_MOST) {
            return refused(BAD_NUMBER);
        }
        if (k > now.countOf(READER)) {
            return refused(NONE_SUCH);
        }
        int best = 0;
        long bestWeight = NONE;
        for (int set = 1; set <= setOfAll(now.countOf(READER)); set++) {
            long weight = Integer.bitCount(set) == k ? now.rightWeight(set) : NONE;
            if (weight > bestWeight) {
                best = set;
                bestWeight = weight;
            }
        }
        return given(best);
    }

    public boolean power(int reader) {
        if (!now.has(READER, reader)) {
            return denied(BAD_NUMBER);
        }
        int count = now.countOf(READER);
        int total = now.votesOf(setOfAll(count));
        int turning = 0;
        for (int ahead = 0; ahead <= setOfAll(count); ahead++) {
            boolean turns = !isIn(ahead, reader)
                && 2 * now.votesOf(ahead) <= total
                && 2 * now.votesOf(ahead | 1 << reader) > total;
            if (turns) {
                int before = Integer.bitCount(ahead);
                turning += ordersOf(before) * ordersOf(count - 1 - before);
            }
        }
        return tellFraction(turning, ordersOf(count));
    }

    // ---- WORDS.

    public int clash() {
        int set = 0;
        for (int w = 0; w < now.countOf(WORD); w++) {
            int meant = now.senseBefore(cell(now.wordPersons, w), now.warm);
            if (meant != WHOEVER && meant != cell(now.wordGuilts, w)) {
                set |= 1 << w;
            }
        }
        return given(set);
    }

    public int struck() {
        return given(Integer.bitCount(wordsToStrike()));
    }

    public int struckSet() {
        return given(wordsToStrike());
    }

    // ---- orders, games.

    public int best() {
        order.settle(now);
        return given(order.mostFree());
    }

    public int bestAt(int k) {
        if (k < 0) {
            return refused(BAD_NUMBER);
        }
        order.settle(now);
        return within(k, order.count) ? given(cell(order.row, k)) : refused(NONE_SUCH);
    }

    public int game(int turns) {
        if (!within(turns, TURNS_MOST + 1)) {
            return refused(BAD_NUMBER);
        }
        spare.copyFrom(now);
        return given(game.begin(spare, turns));
    }

    public int moveOf(int turns, int what) {
        if (turns < 1 || turns > TURNS_MOST || !within(what, 2)) {
            return refused(BAD_NUMBER);
        }
        spare.copyFrom(now);
        game.begin(spare, turns);
        if (game.first >= Game.NOTHING) {
            return refused(NONE_SUCH);
        }
        return given(what == 0 ? game.first / Game.DEEDS : game.first % Game.DEEDS);
    }

    public int copyFed(int tray) {
        if (!within(tray, TRAYS)) {
            return refused(BAD_NUMBER);
        }
        Tray goal = trayAt(tray);
        if (goal.isMissing()) {
            return refused(TRAY_MISSING);
        }
        int count = now.countOf(PERSON);
        if (!goal.hasRun(0, count)) {
            return refused(NO_PLACE);
        }
        for (int p = 0; p < count; p++) {
            goal.putNumber(p, now.personAt(p).fed);
        }
        return given(count);
    }

    // ---- WEEKS.

    public int live(int seed) {
        if (!within(seed, SEED_MOST + 1)) {
            return refused(BAD_NUMBER);
        }
        if (!now.weeks.known) {
            return refused(NONE_SUCH);
        }
        int sittings = now.sittings;
        int free = Integer.bitCount(now.setOfFate(FREE));
        int held = Integer.bitCount(now.setOfFate(HELD));
        life.begin(seed);
        Life.runSteps(life, now, 0, now.weeks.count, 0);
        life.keep(1, now.sittings - sittings);
        life.keep(2, Integer.bitCount(now.setOfFate(FREE)) - free);
        life.keep(3, Integer.bitCount(now.setOfFate(HELD)) - held);
        life.keepSteps();
        return given(life.steps);
    }

    public int lived(int what) {
        if (!within(what, Life.KEPT)) {
            return refused(BAD_NUMBER);
        }
        return life.wasLived ? given(cell(life.kept, what)) : refused(NONE_SUCH);
    }

    public boolean mean(int seed, int many) {
        boolean seedsCanBe = within(seed, SEED_MOST + 1) && many >= 1 && many <= SEEDS_MOST;
        if (!seedsCanBe || seed + many - 1 > SEED_MOST) {
            return denied(BAD_NUMBER);
        }
        if (!now.weeks.known) {
            return denied(NONE_SUCH);
        }
        int total = 0;
        for (int i = 0; i < many; i++) {
            spare.copyFrom(now);
            life.begin(seed + i);
            Life.runSteps(life, spare, 0, spare.weeks.count, 0);
            total += spare.allFed();
        }
        return tellFraction(total, many);
    }

    // ---- MARKS.

    public int mark() {
        if (markCount >= MARKS_MOST) {
            return refused(TOO_MANY);
        }
        markAt(markCount).copyFrom(now);
        markCount++;
        return given(markCount);
    }

    public int undo() {
        if (markCount <= 0) {
            return refused(NONE_SUCH);
        }
        markCount--;
        now.copyFrom(markAt(markCount));
        return given(markCount);
    }

    // ---- what the calls share.

    private int refused(int why) {
        status = why;
        return NONE;
    }

    private boolean denied(int why) {
        status = why;
        return false;
    }

    private int given(int answer) {
        status = 0;
        return answer;
    }

    private boolean done() {
        status = 0;
        return true;
    }

    private boolean tellFraction(long part, long whole) {
        long divisor = commonDivisor(part, whole);
        if (divisor > 0) {
            top = part / divisor;
            bottom = whole / divisor;
        }
        return done();
    }

    private Tray trayAt(int tray) {
        Tray one = within(tray, trays.length) ? trays[tray] : noTray;
        return one != null ? one : noTray;
    }

    private Court markAt(int mark) {
        Court one = within(mark, marks.length) ? marks[mark] : spare;
        return one != null ? one : spare;
    }

    private int placeRefusal(int tray, int place) {
        if (!within(tray, TRAYS)) {
            return BAD_NUMBER;
        }
        if (trayAt(tray).isMissing()) {
            return TRAY_MISSING;
        }
        return trayAt(tray).hasPlace(place) ? 0 : NO_PLACE;
    }

    private int textRead(boolean taken, int many) {
        tokens.byteCount = 0;
        faultKind = tokens.fault;
        faultPlace = tokens.faultPlace;
        return taken ? given(many) : refused(FAULTY);
    }

    /** Reads the threes into notGuilty and notClean; the STATUS that stands against it, or 0. */
    private int readThrees(int tray, int n) {
        if (!within(tray, TRAYS) || !within(n, THREES_MOST + 1)) {
            return BAD_NUMBER;
        }
        Tray row = trayAt(tray);
        if (row.isMissing()) {
            return TRAY_MISSING;
        }
        if (!row.hasRun(0, 3 * n)) {
            return NO_PLACE;
        }
        notGuilty = 0;
        notClean = 0;
        for (int i = 0; i < n; i++) {
            long person = row.numberAt(3 * i);
            long warm = row.numberAt(3 * i + 1);
            long cue = row.numberAt(3 * i + 2);
            boolean canBe = person >= 0 && person < now.countOf(PERSON)
                && warm >= 0 && warm <= WARM_MOST
                && cue >= 0 && cue <= now.countOf(SIGN);
            if (!canBe) {
                return BAD_CONTENT;
            }
            takeThree((int) person, (int) warm, (int) cue);
        }
        return 0;
    }

    private void takeThree(int person, int warm, int cue) {
        Person one = now.personAt(person);
        if (now.cueFor(GUILTY, one.fed, warm, one.smells) != cue) {
            notGuilty |= 1 << person;
        }
        if (now.cueFor(CLEAN, one.fed, warm, one.smells) != cue) {
            notClean |= 1 << person;
        }
    }

    /** What is SHOWN before one tells nothing of another: each open guilt doubles the ways. */
    private int ways() {
        if ((notGuilty & notClean) != 0) {
            return 0;
        }
        return 1 << now.countOf(PERSON) - Integer.bitCount(notGuilty | notClean);
    }

    private boolean isOpen(int person) {
        return !isIn(notGuilty | notClean, person);
    }

    /**
     * The PERSON times 10 and WARM of ASK. A question halves the ways, if his guilt is open
     * and changes what is SHOWN; else all ways show one thing, and the first is as good as any.
     */
    private int bestQuestion() {
        for (int p = 0; p < now.countOf(PERSON); p++) {
            Person one = now.personAt(p);
            for (int warm = 0; warm <= WARM_MOST && isOpen(p); warm++) {
                int ifGuilty = now.cueFor(GUILTY, one.fed, warm, one.smells);
                if (ifGuilty != now.cueFor(CLEAN, one.fed, warm, one.smells)) {
                    return p * (WARM_MOST + 1) + warm;
                }
            }
        }
        return 0;
    }

    /** Deeds, FEEDINGS and SMELLS as one number, so that the least of these is LEAST. */
    private int leastPlan(int person, int cue) {
        Person one = now.personAt(person);
        int least = NONE;
        for (int meals = 0; meals <= MEALS_MOST && one.fed + meals <= FED_MOST; meals++) {
            for (int smells = 0; smells <= setOfAll(now.countOf(SMELL)); smells++) {
                int deeds = meals + Integer.bitCount(smells ^ one.smells);
                int plan = deeds << 10 | meals << 5 | smells;
                boolean shows = now.cueFor(one.guilt, one.fed + meals, now.warm, smells) == cue;
                if (shows && (least == NONE || plan < least)) {
                    least = plan;
                }
            }
        }
        return least;
    }

    /** PEOPLE don't share WORDS, so the fewest for each are the fewest for all. */
    private int wordsToStrike() {
        int gone = 0;
        for (int p = 0; p < now.countOf(PERSON); p++) {
            int blaming = now.wordsOf(p, GUILTY);
            int clearing = now.wordsOf(p, CLEAN);
            int meant = now.senseBefore(p, now.warm);
            if (meant == GUILTY) {
                gone |= clearing;
            } else if (meant == CLEAN) {
                gone |= blaming;
            } else {
                gone |= lesserSet(blaming, clearing);
            }
        }
        return gone;
    }

    private static int lesserSet(int one, int other) {
        int more = Integer.bitCount(one) - Integer.bitCount(other);
        if (more != 0) {
            return more < 0 ? one : other;
        }
        return Math.min(one, other);
    }

    private static boolean within(int n, int count) {
        return n >= 0 && n < count;
    }

    private static int cell(int[] row, int place) {
        return place >= 0 && place < row.length ? row[place] : 0;
    }

    private static void put(int[] row, int place, int v) {
        if (place >= 0 && place < row.length) {
            row[place] = v;
        }
    }

    private static void copyRow(int[] from, int[] to) {
        for (int i = 0; i < from.length && i < to.length; i++) {
            to[i] = from[i];
        }
    }

    private static boolean isIn(int set, int one) {
        return (set >> one & 1) != 0;
    }

    private static int setOfAll(int count) {
        return (1 << count) - 1;
    }

    private static int ordersOf(int count) {
        int orders = 1;
        for (int i = 2; i <= count && i <= READERS_MOST; i++) {
            orders *= i;
        }
        return orders;
    }

    private static long commonDivisor(long one, long other) {
        long a = one;
        long b = other;
        // Each round at least halves the product, so 128 are enough for any two.
        for (int i = 0; i < 128 && b != 0; i++) {
            long rest = a % b;
            a = b;
            b = rest;
        }
        return a;
    }

    private static final class Tray {
        int sort = NONE;
        int many = 0;
        final long[] numbers = new long[TRAY_LENGTH];

        boolean isMissing() {
            return sort == NONE;
        }

        void renew(int newSort, int newMany) {
            sort = newSort;
            many = newMany;
            for (int i = 0; i < numbers.length; i++) {
                numbers[i] = 0;
            }
        }

        boolean hasPlace(int place) {
            return within(place, many);
        }

        boolean hasRun(int place, int length) {
            return (long) place + length <= many;
        }

        long numberAt(int place) {
            return within(place, numbers.length) ? numbers[place] : 0;
        }

        void putNumber(int place, long v) {
            if (within(place, numbers.length)) {
                numbers[place] = cut(v);
            }
        }

        private long cut(long v) {
            switch (sort) {
                case 0: return (byte) v;
                case 1: return (short) v;
                case 2: return (int) v;
                default: return v;
            }
        }

        /** The way round keeps the numbers as they were when a TRAY is poured into itself. */
        void takeRun(Tray from, int place, int at, int length) {
            for (int i = 0; i < length; i++) {
                int step = at > place ? length - 1 - i : i;
                putNumber(at + step, from.numberAt(place + step));
            }
        }
    }

    private static final class Rule {
        int cue = 0;
        int guilt = WHOEVER;
        int smell = NONE;
        int fedNumber = NONE;
        int fedLow = 0;
        int fedHigh = FED_MOST;
        int warmNumber = NONE;
        int warmLow = 0;
        int warmHigh = WARM_MOST;

        void renew(int newCue) {
            cue = newCue;
            guilt = WHOEVER;
            smell = NONE;
            fedNumber = NONE;
            fedLow = 0;
            fedHigh = FED_MOST;
            warmNumber = NONE;
            warmLow = 0;
            warmHigh = WARM_MOST;
        }

        void copyFrom(Rule other) {
            cue = other.cue;
            guilt = other.guilt;
            smell = other.smell;
            fedNumber = other.fedNumber;
            fedLow = other.fedLow;
            fedHigh = other.fedHigh;
            warmNumber = other.warmNumber;
            warmLow = other.warmLow;
            warmHigh = other.warmHigh;
        }

        int partOf(int what) {
            switch (what) {
                case 0: return cue;
                case 1: return guilt;
                case 2: return fedNumber;
                case 3: return warmNumber;
                case 4: return smell;
                default: return NONE;
            }
        }

        boolean bearsOn(int hisGuilt, int fed, int warm, int smells) {
            return (guilt == WHOEVER || guilt == hisGuilt)
                && fed >= fedLow && fed <= fedHigh
                && warm >= warmLow && warm <= warmHigh
                && (smell == NONE || (smells >> smell & 1) != 0);
        }
    }

    private static final class Person {
        int guilt = CLEAN;
        int fed = 0;
        int smells = 0;
        int fate = WAITS;
        int sittings = 0;

        void renew() {
            guilt = CLEAN;
            fed = 0;
            smells = 0;
            fate = WAITS;
            sittings = 0;
        }

        void copyFrom(Person other) {
            guilt = other.guilt;
            fed = other.fed;
            smells = other.smells;
            fate = other.fate;
            sittings = other.sittings;
        }
    }

    /** The COURT with all that became of it, and its WEEKS: all that a MARK keeps. */
    private static final class Court {
        final int[] counts = new int[KINDS];
        final long[] names = new long[KINDS * NAMES_OF_A_KIND];
        final int[] senses = new int[CUES_MOST];
        final Rule[] rules = new Rule[RULES_MOST];
        final Person[] people = new Person[PEOPLE_MOST];
        final int[] slips = new int[READERS_MOST];
        final int[] votes = new int[READERS_MOST];
        final int[] wordPersons = new int[WORDS_MOST];
        final int[] wordGuilts = new int[WORDS_MOST];
        final Weeks weeks = new Weeks();
        final Rule noRule = new Rule();
        final Person nobody = new Person();
        int warm = 0;
        int sittings = 0;

        Court() {
            for (int i = 0; i < rules.length; i++) {
                rules[i] = new Rule();
            }
            for (int i = 0; i < people.length; i++) {
                people[i] = new Person();
            }
        }

        void clear() {
            for (int i = 0; i < counts.length; i++) {
                counts[i] = 0;
            }
            weeks.clear();
            warm = 0;
            sittings = 0;
        }

        void copyFrom(Court other) {
            copyRow(other.counts, counts);
            for (int i = 0; i < names.length && i < other.names.length; i++) {
                names[i] = other.names[i];
            }
            copyRow(other.senses, senses);
            for (int i = 0; i < countOf(RULE); i++) {
                ruleAt(i).copyFrom(other.ruleAt(i));
            }
            for (int i = 0; i < countOf(PERSON); i++) {
                personAt(i).copyFrom(other.personAt(i));
            }
            copyRow(other.slips, slips);
            copyRow(other.votes, votes);
            copyRow(other.wordPersons, wordPersons);
            copyRow(other.wordGuilts, wordGuilts);
            weeks.copyFrom(other.weeks);
            warm = other.warm;
            sittings = other.sittings;
        }

        int countOf(int kind) {
            return kind >= 0 && kind < counts.length ? counts[kind] : 0;
        }

        boolean has(int kind, int one) {
            return one >= 0 && one < countOf(kind);
        }

        boolean isFull(int kind) {
            return countOf(kind) >= cell(MOST, kind);
        }

        int addOne(int kind) {
            int added = countOf(kind);
            put(counts, kind, added + 1);
            return added;
        }

        Rule ruleAt(int rule) {
            Rule one = rule >= 0 && rule < rules.length ? rules[rule] : noRule;
            return one != null ? one : noRule;
        }

        Person personAt(int person) {
            Person one = person >= 0 && person < people.length ? people[person] : nobody;
            return one != null ? one : nobody;
        }

        void putName(int kind, int one, long name) {
            int place = kind * NAMES_OF_A_KIND + one;
            if (within(place, names.length)) {
                names[place] = name;
            }
        }

        int numberOf(int kind, long name) {
            for (int i = 0; i < countOf(kind) && i < NAMES_OF_A_KIND; i++) {
                int place = kind * NAMES_OF_A_KIND + i;
                if (within(place, names.length) && names[place] == name) {
                    return i;
                }
            }
            return NONE;
        }

        boolean isTaken(long name) {
            return numberOf(SMELL, name) != NONE || numberOf(SIGN, name) != NONE
                || numberOf(PERSON, name) != NONE || numberOf(READER, name) != NONE;
        }

        void dropRule(int rule) {
            for (int r = rule; r + 1 < countOf(RULE); r++) {
                ruleAt(r).copyFrom(ruleAt(r + 1));
            }
            put(counts, RULE, countOf(RULE) - 1);
        }

        int setOfFate(int fate) {
            int set = 0;
            for (int p = 0; p < countOf(PERSON); p++) {
                if (personAt(p).fate == fate) {
                    set |= 1 << p;
                }
            }
            return set;
        }

        int guiltySet() {
            int set = 0;
            for (int p = 0; p < countOf(PERSON); p++) {
                if (personAt(p).guilt == GUILTY) {
                    set |= 1 << p;
                }
            }
            return set;
        }

        int allFed() {
            int sum = 0;
            for (int p = 0; p < countOf(PERSON); p++) {
                sum += personAt(p).fed;
            }
            return sum;
        }

        int wordsOf(int person, int guilt) {
            int set = 0;
            for (int w = 0; w < countOf(WORD); w++) {
                if (cell(wordPersons, w) == person && cell(wordGuilts, w) == guilt) {
                    set |= 1 << w;
                }
            }
            return set;
        }

        int votesOf(int set) {
            int sum = 0;
            for (int r = 0; r < countOf(READER); r++) {
                sum += isIn(set, r) ? cell(votes, r) : 0;
            }
            return sum;
        }

        /** How likely a set of READERS is right, in sixteenths to the power of how many. */
        long rightWeight(int set) {
            long sum = 0;
            for (int right = 1; right <= set; right++) {
                boolean part = (right & ~set) == 0;
                if (part && 2 * votesOf(right) > votesOf(set)) {
                    sum += weightOf(set, right);
                }
            }
            return sum;
        }

        private long weightOf(int set, int right) {
            long weight = 1;
            for (int r = 0; r < countOf(READER); r++) {
                if (isIn(set, r)) {
                    int slip = cell(slips, r);
                    weight *= isIn(right, r) ? SLIP_MOST - slip : slip;
                }
            }
            return weight;
        }

        int senseOf(int cue) {
            return has(SIGN, cue) ? cell(senses, cue) : WHOEVER;
        }

        /** The first RULE that bears, or NONE. */
        int ruleFor(int guilt, int fed, int atWarm, int smells) {
            for (int r = 0; r < countOf(RULE); r++) {
                if (ruleAt(r).bearsOn(guilt, fed, atWarm, smells)) {
                    return r;
                }
            }
            return NONE;
        }

        /** What is SHOWN; as many as there are CUES: none. */
        int cueFor(int guilt, int fed, int atWarm, int smells) {
            int rule = ruleFor(guilt, fed, atWarm, smells);
            return rule == NONE ? countOf(SIGN) : ruleAt(rule).cue;
        }

        int cueBefore(int person, int atWarm) {
            Person one = personAt(person);
            int rule = ruleFor(one.guilt, one.fed, atWarm, one.smells);
            return rule == NONE ? countOf(SIGN) : ruleAt(rule).cue;
        }

        int senseBefore(int person, int atWarm) {
            return senseOf(cueBefore(person, atWarm));
        }

        boolean hasRoomFor(int more) {
            return sittings + more <= SITTINGS_MOST;
        }

        boolean canHoldTerm() {
            int waiting = Integer.bitCount(setOfFate(WAITS));
            return waiting > 0 && hasRoomFor(waiting);
        }

        int sitBefore(int person) {
            int cue = cueBefore(person, warm);
            warm = Math.min(WARM_MOST, warm + 1);
            sittings++;
            personAt(person).sittings++;
            return cue;
        }

        /** A TERM, whatever the count of SITTINGS: the set of those who are FREE by it. */
        int holdTerm() {
            int freed = 0;
            for (int p = 0; p < countOf(PERSON); p++) {
                Person one = personAt(p);
                if (one.fate == WAITS) {
                    int meant = senseOf(sitBefore(p));
                    one.fate = meant == CLEAN ? FREE : meant == GUILTY ? HELD : WAITS;
                    freed |= meant == CLEAN ? 1 << p : 0;
                }
            }
            return freed;
        }

        boolean feedPerson(int person, int often) {
            Person one = personAt(person);
            if (one.fed >= FED_MOST) {
                return false;
            }
            one.fed = Math.min(FED_MOST, one.fed + often);
            return true;
        }

        boolean setSmell(int person, int smell, boolean is) {
            Person one = personAt(person);
            if (isIn(one.smells, smell) == is) {
                return false;
            }
            one.smells ^= 1 << smell;
            return true;
        }

        boolean coolDown() {
            boolean wasWarm = warm > 0;
            warm = 0;
            return wasWarm;
        }
    }

    /** WEEKS as rows of cells, one row for each STEP. */
    private static final class Weeks {
        static final int STEPS_MOST = 30;
        static final int KIND = 0;
        static final int TEST = 1;
        static final int FIRST = 2;
        static final int SECOND = 3;
        /** Of when and loop: the STEP behind their end. */
        static final int BEHIND = 4;
        static final int WIDTH = 5;

        boolean known = false;
        int count = 0;
        final int[] cells = new int[STEPS_MOST * WIDTH];

        void clear() {
            known = false;
            count = 0;
        }

        void copyFrom(Weeks other) {
            known = other.known;
            count = other.count;
            copyRow(other.cells, cells);
        }

        int cellAt(int step, int what) {
            return cell(cells, step * WIDTH + what);
        }

        void putCell(int step, int what, int v) {
            put(cells, step * WIDTH + what, v);
        }
    }

    /** The tape, and the TOKENS of a text on it, one by one. */
    private static final class Tokens {
        static final int NAME_LETTERS = 8;
        static final int NUMBER_DIGITS = 4;

        final int[] bytes = new int[TAPE_LENGTH];
        final long[] keywords = new long[KEYWORD_COUNT];
        int byteCount = 0;
        int end = 0;
        int next = 0;
        int start = 0;
        int token = TEXT_END;
        long name = 0;
        int value = 0;
        int fault = 0;
        int faultPlace = NONE;

        Tokens() {
            int keyword = 0;
            long code = 0;
            for (int i = 0; i < KEYWORDS.length(); i++) {
                char c = KEYWORDS.charAt(i);
                if (c != ' ') {
                    code = withLetter(code, c);
                } else if (keyword < keywords.length) {
                    keywords[keyword] = code;
                    keyword++;
                    code = 0;
                }
            }
        }

        boolean hasRoom(int more) {
            return byteCount + more <= bytes.length;
        }

        void addInt(int four) {
            for (int shift = 24; shift >= 0; shift -= 8) {
                put(bytes, byteCount, four >> shift & 255);
                byteCount++;
            }
        }

        void begin(int textLength) {
            end = textLength;
            next = 0;
            fault = 0;
            faultPlace = NONE;
            goOn();
        }

        /** A FAULT at this TOKEN; if it is none at all, that is the least kind. */
        boolean refuse(int kind) {
            fault = token == BAD_TOKEN ? 1 : kind;
            faultPlace = start;
            return false;
        }

        /** Comes to the next TOKEN. */
        void goOn() {
            while (next < end && isBlank(byteAt(next))) {
                next++;
            }
            start = next;
            int first = byteAt(start);
            if (start >= end) {
                token = TEXT_END;
            } else if (isLetter(first)) {
                name = 0;
                while (next < end && isLetter(byteAt(next))) {
                    name = withLetter(name, byteAt(next));
                    next++;
                }
                token = next - start > NAME_LETTERS ? LONG_WORD : keywordOrName();
            } else if (isDigit(first)) {
                value = 0;
                while (next < end && isDigit(byteAt(next))) {
                    value = value * 10 + byteAt(next) - '0';
                    next++;
                }
                token = next - start > NUMBER_DIGITS ? BAD_TOKEN : NUMBER;
            } else {
                next++;
                token = isSign(first) ? first : BAD_TOKEN;
            }
        }

        private int keywordOrName() {
            for (int i = 0; i < keywords.length; i++) {
                if (keywords[i] == name) {
                    return i;
                }
            }
            return NAME;
        }

        private int byteAt(int place) {
            return place >= 0 && place < bytes.length ? bytes[place] : NONE;
        }

        /** Words of up to 8 letters have numbers of their own; longer ones are never asked. */
        private static long withLetter(long code, int letter) {
            return code * 27 + letter - 'a' + 1;
        }

        private static boolean isBlank(int c) {
            return c == ' ' || c == '\n';
        }

        private static boolean isLetter(int c) {
            return c >= 'a' && c <= 'z';
        }

        private static boolean isDigit(int c) {
            return c >= '0' && c <= '9';
        }

        private static boolean isSign(int c) {
            return c == ';' || c == '<' || c == '>' || c == '=';
        }
    }

    /** Reads texts; false from any of its methods means that the TOKENS hold a FAULT. */
    private static final class Parser {
        static final int OPEN_MOST = 3;

        final Tokens tokens;
        final int[] open = new int[OPEN_MOST];
        int openCount = 0;
        // What was read latest: a NAME's or a NUMBER's number, a COMPARES as a span.
        int found = 0;
        int low = 0;
        int high = 0;

        Parser(Tokens tokens) {
            this.tokens = tokens;
        }

        boolean readCourt(int textLength, Court court) {
            court.clear();
            tokens.begin(textLength);
            for (int i = 0; i < TAPE_LENGTH && tokens.token != TEXT_END; i++) {
                int kind = tokens.token;
                if (!beginPart(kind, court) || !readPart(kind, court) || !take(';')) {
                    return false;
                }
            }
            return true;
        }

        private boolean beginPart(int kind, Court court) {
            if (kind < SMELL || kind > WORD) {
                return tokens.refuse(2);
            }
            if (court.isFull(kind)) {
                return tokens.refuse(6);
            }
            tokens.goOn();
            return true;
        }

        private boolean readPart(int kind, Court court) {
            switch (kind) {
                case SMELL: return takeNewName(SMELL, court);
                case SIGN: return takeNewName(SIGN, court) && readSense(court);
                case RULE: return takeName(SIGN, court) && readRule(court);
                case PERSON: return takeNewName(PERSON, court) && readPerson(court);
                case READER: return takeNewName(READER, court) && readReader(court);
                default: return takeName(PERSON, court) && readWord(court);
            }
        }

        private boolean readSense(Court court) {
            int cue = found;
            if (!take(MEANS)) {
                return false;
            }
            int guilt = guiltHere();
            if (guilt == WHOEVER && tokens.token != NOTHING_WORD) {
                return tokens.refuse(2);
            }
            put(court.senses, cue, guilt);
            tokens.goOn();
            return true;
        }

        private boolean readRule(Court court) {
            Rule rule = court.ruleAt(court.addOne(RULE));
            rule.renew(found);
            rule.guilt = guiltHere();
            if (rule.guilt != WHOEVER) {
                tokens.goOn();
            }
            if (skip(FED)) {
                if (!takeCompare(FED_MOST)) {
                    return false;
                }
                rule.fedNumber = found;
                rule.fedLow = low;
                rule.fedHigh = high;
            }
            if (skip(WARM)) {
                if (!takeCompare(WARM_MOST)) {
                    return false;
                }
                rule.warmNumber = found;
                rule.warmLow = low;
                rule.warmHigh = high;
            }
            if (skip(SMELLS)) {
                if (!takeName(SMELL, court)) {
                    return false;
                }
                rule.smell = found;
            }
            return true;
        }

        private boolean readPerson(Court court) {
            Person one = court.personAt(found);
            one.renew();
            if (skip(GUILTY_WORD)) {
                one.guilt = GUILTY;
            }
            if (skip(FED)) {
                if (!takeNumber(0, FED_MOST)) {
                    return false;
                }
                one.fed = found;
            }
            return !skip(SMELLS) || readSmells(one, court);
        }

        private boolean readSmells(Person one, Court court) {
            // A SMELL more than there can be is a FAULT at the latest.
            for (int i = 0; i <= SMELLS_MOST && tokens.token == NAME; i++) {
                int smell = court.numberOf(SMELL, tokens.name);
                if (smell == NONE) {
                    return tokens.refuse(3);
                }
                if (isIn(one.smells, smell)) {
                    return tokens.refuse(5);
                }
                one.smells |= 1 << smell;
                tokens.goOn();
            }
            return true;
        }

        private boolean readReader(Court court) {
            int reader = found;
            if (!take(SLIPS) || !takeNumber(0, SLIP_MOST)) {
                return false;
            }
            put(court.slips, reader, found);
            if (!take(VOTES) || !takeNumber(1, VOTES_MOST)) {
                return false;
            }
            put(court.votes, reader, found);
            return true;
        }

        private boolean readWord(Court court) {
            int guilt = guiltHere();
            if (guilt == WHOEVER) {
                return tokens.refuse(2);
            }
            int word = court.addOne(WORD);
            put(court.wordPersons, word, found);
            put(court.wordGuilts, word, guilt);
            tokens.goOn();
            return true;
        }

        boolean readWeeks(int textLength, Court court, Weeks weeks) {
            weeks.clear();
            openCount = 0;
            tokens.begin(textLength);
            for (int i = 0; i < TAPE_LENGTH && tokens.token != TEXT_END; i++) {
                int kind = tokens.token;
                int step = weeks.count;
                boolean good = kind == END ? closeStep(weeks)
                    : beginStep(kind, weeks) && readStep(kind, step, court, weeks);
                if (!good || !take(';')) {
                    return false;
                }
            }
            if (openCount > 0) {
                return tokens.refuse(2);
            }
            weeks.known = true;
            return true;
        }

        private boolean closeStep(Weeks weeks) {
            if (openCount <= 0) {
                return tokens.refuse(2);
            }
            openCount--;
            weeks.putCell(cell(open, openCount), Weeks.BEHIND, weeks.count);
            tokens.goOn();
            return true;
        }

        private boolean beginStep(int kind, Weeks weeks) {
            if (kind < SIT || kind > STOP) {
                return tokens.refuse(2);
            }
            if (weeks.count >= Weeks.STEPS_MOST) {
                return tokens.refuse(6);
            }
            boolean opens = kind == WHEN || kind == LOOP;
            if (opens && openCount >= OPEN_MOST) {
                return tokens.refuse(7);
            }
            int step = weeks.count;
            weeks.count++;
            weeks.putCell(step, Weeks.KIND, kind);
            if (opens) {
                put(open, openCount, step);
                openCount++;
            }
            tokens.goOn();
            return true;
        }

        private boolean readStep(int kind, int step, Court court, Weeks weeks) {
            switch (kind) {
                case SIT:
                    return takeName(PERSON, court) && keepFound(weeks, step, Weeks.FIRST);
                case FEED:
                    return takeName(PERSON, court) && keepFound(weeks, step, Weeks.FIRST)
                        && takeNumber(1, 9) && keepFound(weeks, step, Weeks.SECOND);
                case RUB:
                case WASH:
                    return takeName(PERSON, court) && keepFound(weeks, step, Weeks.FIRST)
                        && takeName(SMELL, court) && keepFound(weeks, step, Weeks.SECOND);
                case WHEN:
                    return readTest(step, court, weeks);
                case LOOP:
                    return takeNumber(1, 99) && keepFound(weeks, step, Weeks.FIRST);
                default:
                    return true;
            }
        }

        private boolean readTest(int step, Court court, Weeks weeks) {
            int test = tokens.token;
            if (test != SHOWS && test != HELD_WORD && test != FREE_WORD && test != WARM) {
                return tokens.refuse(2);
            }
            weeks.putCell(step, Weeks.TEST, test);
            tokens.goOn();
            if (test == WARM) {
                if (!takeCompare(WARM_MOST)) {
                    return false;
                }
                weeks.putCell(step, Weeks.FIRST, low);
                weeks.putCell(step, Weeks.SECOND, high);
                return true;
            }
            if (!takeName(PERSON, court) || !keepFound(weeks, step, Weeks.FIRST)) {
                return false;
            }
            return test != SHOWS
                || takeName(SIGN, court) && keepFound(weeks, step, Weeks.SECOND);
        }

        private boolean keepFound(Weeks weeks, int step, int what) {
            weeks.putCell(step, what, found);
            return true;
        }

        private int guiltHere() {
            return tokens.token == GUILTY_WORD ? GUILTY : tokens.token == CLEAN_WORD ? CLEAN : WHOEVER;
        }

        private boolean skip(int token) {
            if (tokens.token != token) {
                return false;
            }
            tokens.goOn();
            return true;
        }

        private boolean take(int token) {
            return skip(token) || tokens.refuse(2);
        }

        private boolean takeNewName(int kind, Court court) {
            if (tokens.token != NAME) {
                return tokens.refuse(2);
            }
            if (court.isTaken(tokens.name)) {
                return tokens.refuse(3);
            }
            found = court.addOne(kind);
            court.putName(kind, found, tokens.name);
            tokens.goOn();
            return true;
        }

        private boolean takeName(int kind, Court court) {
            if (tokens.token != NAME) {
                return tokens.refuse(2);
            }
            found = court.numberOf(kind, tokens.name);
            if (found == NONE) {
                return tokens.refuse(3);
            }
            tokens.goOn();
            return true;
        }

        private boolean takeNumber(int least, int most) {
            if (tokens.token != NUMBER) {
                return tokens.refuse(2);
            }
            if (tokens.value < least || tokens.value > most) {
                return tokens.refuse(4);
            }
            found = tokens.value;
            tokens.goOn();
            return true;
        }

        /** COMPARES NUMBER, as the span from low to high of what is so. */
        private boolean takeCompare(int most) {
            int sign = tokens.token;
            if (sign != '<' && sign != '>' && sign != '=') {
                return tokens.refuse(2);
            }
            tokens.goOn();
            if (!takeNumber(0, most)) {
                return false;
            }
            low = sign == '<' ? 0 : sign == '>' ? found + 1 : found;
            high = sign == '<' ? found - 1 : sign == '>' ? most : found;
            return true;
        }
    }

    /** In how many WORLDS each RULE is the first that bears. */
    private static final class Worlds {
        static final int FED_HERE = 20;

        final int[] all = new int[RULES_MOST];
        final int[] guilty = new int[RULES_MOST];
        int unshown = 0;

        void countIn(Court court) {
            for (int r = 0; r < RULES_MOST; r++) {
                put(all, r, 0);
                put(guilty, r, 0);
            }
            unshown = 0;
            for (int fed = 0; fed <= FED_HERE; fed++) {
                for (int warm = 0; warm <= WARM_MOST; warm++) {
                    countSmells(court, GUILTY, fed, warm);
                    countSmells(court, CLEAN, fed, warm);
                }
            }
        }

        /**
         * All sets of SMELLS at once: a RULE that asks a SMELL which none ahead of it asked
         * takes half of the sets that are left, one that asks none takes all.
         */
        private void countSmells(Court court, int guilt, int fed, int warm) {
            int left = 1 << court.countOf(SMELL);
            int asked = 0;
            for (int r = 0; r < court.countOf(RULE) && left > 0; r++) {
                Rule rule = court.ruleAt(r);
                boolean asksAnew = rule.smell == NONE || !isIn(asked, rule.smell);
                if (asksAnew && rule.bearsOn(guilt, fed, warm, ALL_SMELLS)) {
                    int taken = rule.smell == NONE ? left : left / 2;
                    asked |= rule.smell == NONE ? 0 : 1 << rule.smell;
                    left -= taken;
                    put(all, r, cell(all, r) + taken);
                    put(guilty, r, cell(guilty, r) + (guilt == GUILTY ? taken : 0));
                }
            }
            unshown += left;
        }
    }

    /**
     * ORDER. WARM before the next one depends only on how many were sat before, so the most
     * who can yet be FREE depends only on the set of those who were.
     */
    private static final class Order {
        final int[] mostBehind = new int[1 << PEOPLE_MOST];
        final int[] row = new int[PEOPLE_MOST];
        int count = 0;

        void settle(Court court) {
            int waits = court.setOfFate(WAITS);
            count = Integer.bitCount(waits);
            for (int sat = waits; sat >= 0; sat--) {
                if ((sat & ~waits) == 0) {
                    put(mostBehind, sat, mostFrom(court, waits, sat));
                }
            }
            int sat = 0;
            for (int k = 0; k < count; k++) {
                int next = firstOfBest(court, waits, sat);
                put(row, k, next);
                sat |= 1 << next;
            }
        }

        int mostFree() {
            return cell(mostBehind, 0);
        }

        private int mostFrom(Court court, int waits, int sat) {
            int most = 0;
            for (int p = 0; p < court.countOf(PERSON); p++) {
                if (isIn(waits & ~sat, p)) {
                    most = Math.max(most, freeWith(court, sat, p));
                }
            }
            return most;
        }

        private int firstOfBest(Court court, int waits, int sat) {
            for (int p = 0; p < court.countOf(PERSON); p++) {
                if (isIn(waits & ~sat, p) && freeWith(court, sat, p) == cell(mostBehind, sat)) {
                    return p;
                }
            }
            return 0;
        }

        private int freeWith(Court court, int sat, int person) {
            int warm = Math.min(WARM_MOST, court.warm + Integer.bitCount(sat));
            int freed = court.senseBefore(person, warm) == CLEAN ? 1 : 0;
            return freed + cell(mostBehind, sat | 1 << person);
        }
    }

    /** GAME. Moves are numbered in the order in which MOVE asks them; nothing is the last. */
    private static final class Game {
        static final int DEEDS = 6;
        static final int NOTHING = 36;
        static final int BEYOND = 7;

        int first = NOTHING;
        int value = 0;

        int begin(Court court, int turns) {
            first = NOTHING;
            int sum = 0;
            for (int p = 0; p < court.countOf(PERSON); p++) {
                sum += worth(court, p);
            }
            value = sum;
            return play(this, court, 0, turns, -BEYOND, BEYOND);
        }

        /** Alpha-beta: what can't change the value of the GAME is left out. */
        private static int play(Game game, Court court, int turn, int turns, int low, int high) {
            if (turn >= turns || turn >= TURNS_MOST) {
                return game.value;
            }
            boolean defends = turn % 2 == 0;
            int best = defends ? -BEYOND : BEYOND;
            int least = low;
            int most = high;
            for (int move = 0; move <= NOTHING && least < most; move++) {
                if (!canBe(court, move)) {
                    continue;
                }
                int ahead = game.value;
                game.value -= worth(court, move / DEEDS);
                change(court, move, 1);
                game.value += worth(court, move / DEEDS);
                int end = play(game, court, turn + 1, turns, least, most);
                change(court, move, -1);
                game.value = ahead;
                if (defends ? end > best : end < best) {
                    best = end;
                    game.first = turn == 0 ? move : game.first;
                }
                least = defends ? Math.max(least, end) : least;
                most = defends ? most : Math.min(most, end);
            }
            return best;
        }

        private static boolean canBe(Court court, int move) {
            int person = move / DEEDS;
            int deed = move % DEEDS;
            if (move >= NOTHING) {
                return true;
            }
            if (!court.has(PERSON, person)) {
                return false;
            }
            return deed == 0 ? court.personAt(person).fed < FED_MOST : court.has(SMELL, deed - 1);
        }

        /** A SMELL is changed back as it was changed; only a FEEDING needs a way. */
        private static void change(Court court, int move, int way) {
            Person one = court.personAt(move / DEEDS);
            int deed = move % DEEDS;
            if (move < NOTHING && deed == 0) {
                one.fed += way;
            } else if (move < NOTHING) {
                one.smells ^= 1 << deed - 1;
            }
        }

        /** What one PERSON adds to the value; nobody, who does nothing, adds nothing. */
        private static int worth(Court court, int person) {
            int meant = court.has(PERSON, person) ? court.senseBefore(person, court.warm) : WHOEVER;
            return meant == CLEAN ? 1 : meant == GUILTY ? -1 : 0;
        }
    }

    /** LIVED: the WEEKS of a COURT by one seed, and what live() keeps of it. */
    private static final class Life {
        static final int STEPS_MOST = 300;
        static final int DEPTH_MOST = 3;
        static final int KEPT = 5;

        final int[] kept = new int[KEPT];
        boolean wasLived = false;
        int draws = 0;
        int steps = 0;
        int missed = 0;
        int left = 0;
        boolean over = false;

        void begin(int seed) {
            draws = seed;
            steps = 0;
            missed = 0;
            left = 0;
            over = false;
        }

        void keep(int what, int v) {
            put(kept, what, v);
        }

        void keepSteps() {
            keep(0, missed);
            keep(4, left);
            wasLived = true;
        }

        /** The STEPS from one on, ahead of another; depth: how many when, loop they stand in. */
        private static void runSteps(Life life, Court court, int from, int to, int depth) {
            Weeks weeks = court.weeks;
            int step = from;
            for (int i = 0; i < Weeks.STEPS_MOST && step < to && life.comesTo(); i++) {
                int kind = weeks.cellAt(step, Weeks.KIND);
                int behind = step + 1;
                if (kind == WHEN || kind == LOOP) {
                    behind = weeks.cellAt(step, Weeks.BEHIND);
                    int times = kind == LOOP ? weeks.cellAt(step, Weeks.FIRST)
                        : holds(court, step) ? 1 : 0;
                    for (int k = 0; k < times && depth < DEPTH_MOST && !life.over; k++) {
                        runSteps(life, court, step + 1, behind, depth + 1);
                    }
                } else {
                    life.missed += life.does(court, kind, step) ? 0 : 1;
                }
                step = behind;
            }
        }

        private boolean comesTo() {
            if (over) {
                return false;
            }
            if (steps >= STEPS_MOST) {
                left = 1;
                over = true;
                return false;
            }
            steps++;
            return true;
        }

        private static boolean holds(Court court, int step) {
            int first = court.weeks.cellAt(step, Weeks.FIRST);
            int second = court.weeks.cellAt(step, Weeks.SECOND);
            switch (court.weeks.cellAt(step, Weeks.TEST)) {
                case SHOWS: return court.cueBefore(first, court.warm) == second;
                case HELD_WORD: return court.personAt(first).fate == HELD;
                case FREE_WORD: return court.personAt(first).fate == FREE;
                default: return court.warm >= first && court.warm <= second;
            }
        }

        /** False: the STEP is MISSED. */
        private boolean does(Court court, int kind, int step) {
            int first = court.weeks.cellAt(step, Weeks.FIRST);
            int second = court.weeks.cellAt(step, Weeks.SECOND);
            switch (kind) {
                case SIT:
                    if (!court.hasRoomFor(1)) {
                        return false;
                    }
                    court.sitBefore(first);
                    return true;
                case TERM:
                    if (!court.canHoldTerm()) {
                        return false;
                    }
                    court.holdTerm();
                    return true;
                case FEED: return court.feedPerson(first, second);
                case RUB: return court.setSmell(first, second, true);
                case WASH: return court.setSmell(first, second, false);
                case NIGHT: return court.coolDown();
                case ANY: return feedsAny(court);
                default:
                    over = true;
                    return true;
            }
        }

        private boolean feedsAny(Court court) {
            if (court.countOf(PERSON) <= 0) {
                return false;
            }
            int person = draw(court.countOf(PERSON));
            int often = draw(4);
            return often > 0 && court.feedPerson(person, often);
        }

        private int draw(int n) {
            draws = (draws * 3181 + 11399) % 65536;
            return n > 0 ? draws / 8 % n : 0;
        }
    }
}
