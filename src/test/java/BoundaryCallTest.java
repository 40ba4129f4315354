/**
 * The boundary cases that promises 1 to 36, and paragraphs 2 and 5 that they stand on, name: TRAYS, the tape,
 * what is told and done, what it shows. Each method tests one sentence, or one clause of it, which stands above it.
 */
public final class BoundaryCallTest {
    private static final int MIN = Integer.MIN_VALUE;
    private static final int MAX = Integer.MAX_VALUE;

    public static void main(String[] args) {
        Check.bounds(BoundaryCallTest.class);
    }

    // ---- promises 1 to 4.

    /** Promise 1: "A COURT of nothing": what each call answers when there is none of what it asks. */
    static void boundCourtOfNothing() {
        CatWitness x = new CatWitness();
        for (int one = -1; one <= 6; one++) {
            Check.none(x, x.sense(one), 1);
            Check.none(x, x.rule(one, 0), 1);
            Check.none(x, x.person(one, 0), 1);
            Check.none(x, x.reader(one, 0), 1);
            Check.none(x, x.word(one, 0), 1);
            Check.none(x, x.sit(one), 1);
            Check.none(x, x.cue(one), 1);
            Check.none(x, x.bears(one), 1);
            Check.none(x, x.bearing(one), 1);
            Check.none(x, x.shown(one), 1);
            Check.none(x, x.judgedIn(one), 1);
            Check.none(x, x.least(one, 0), 1);
            Check.none(x, x.reach(one), 1);
            Check.none(x, x.tells(one), 1);
            Check.none(x, x.verdict(one), 1);
            Check.none(x, x.power(one), 1);
            Check.none(x, x.repeal(one), 1);
            Check.none(x, x.appeal(one), 1);
        }
        x = new CatWitness();
        Check.none(x, x.enact(0, 0, 5), 1);
        Check.none(x, x.term(), 7);
        Check.none(x, x.night(), 7);
        Check.gave(x, x.freeIn(0), 0);
        Check.gave(x, x.freeIn(40), 0);
        Check.gave(x, x.idle(), 0);
        Check.gave(x, x.mute(), 420);
        Check.none(x, x.sworn(1), 6);
        Check.gave(x, x.clash(), 0);
        Check.gave(x, x.struck(), 0);
        Check.gave(x, x.struckSet(), 0);
        Check.gave(x, x.best(), 0);
        Check.none(x, x.bestAt(0), 6);
        for (int turns = 0; turns <= 3; turns++) {
            Check.gave(x, x.game(turns), 0);
        }
        Check.none(x, x.moveOf(1, 0), 6);
        x.tray(0, 0, 0);
        Check.gave(x, x.fits(0, 0), 1);
        Check.none(x, x.ask(0, 0, 0), 6);
        Check.gave(x, x.copyFed(0), 0);
        Check.none(x, x.live(0), 6);
        Check.none(x, x.mean(0, 1), 6);
        Check.gave(x, x.mark(), 1);
        Check.gave(x, x.undo(), 0);
    }

    /** Promise 1: "TRAYS are MISSING; an empty tape; the FRACTION 0 by 1; STATUS 0". */
    static void boundNewObject() {
        CatWitness x = new CatWitness();
        Check.is(x.status(), 0);
        Check.is(x.top(), 0);
        Check.is(x.bottom(), 1);
        Check.is(x.fault(0), -1);
        Check.is(x.fault(1), -1);
        for (int tray = 0; tray < 4; tray++) {
            Check.none(x, x.read(tray, 0), 2);
            Check.none(x, x.write(tray, 0, 0), 2);
            Check.none(x, x.fits(tray, 0), 2);
            Check.none(x, x.copyFed(tray), 2);
            Check.none(x, x.pour(tray, 0, tray, 0, 0), 2);
        }
        Check.none(x, x.court(1), 1);
        Check.none(x, x.weeks(1), 1);
        Check.gave(x, x.court(0), 0);
        // Another object has nothing of this one.
        x.tray(0, 0, 1);
        Check.court(x, "person p;");
        CatWitness y = new CatWitness();
        Check.none(y, y.read(0, 0), 2);
        Check.gave(y, y.told(3), 0);
    }

    /** Paragraph 5: "status(), top(), bottom(), feed(), fault() have none." */
    static void boundCallsWithoutStatus() {
        CatWitness x = new CatWitness();
        int[] left = {0, 1, 7};
        for (int status : left) {
            if (status == 1) {
                x.told(-1);
            } else if (status == 7) {
                x.night();
            }
            x.top();
            x.bottom();
            x.fault(-1);
            x.fault(0);
            x.fault(1);
            x.fault(2);
            x.feed(0, 0, 0, 0, 0);
            Check.is(x.status(), status);
            Check.is(x.status(), status);
        }
        // One that is refused, too.
        while (x.feed(0, 0, 0, 0, 0) != CatWitness.NONE) {
            x.top();
        }
        Check.is(x.status(), 7);
        x.told(0);
        Check.is(x.feed(0, 0, 0, 0, 0), -1);
        Check.is(x.status(), 0);
    }

    /** Paragraph 4: "FRACTIONS are told ... without a common divisor, the bottom above 0; 0 is 0 by 1." */
    static void boundFractions() {
        CatWitness x = Check.with("reader a slips 0 votes 1; reader b slips 16 votes 1; reader c slips 8 votes 1; reader d slips 12 votes 1; reader e slips 3 votes 1;");
        int[][] due = {{1, 1}, {0, 1}, {1, 2}, {1, 4}, {13, 16}};
        for (int r = 0; r < due.length; r++) {
            Check.told(x, x.verdict(1 << r), due[r][0], due[r][1]);
        }
        // All six at once.
        x = Check.with("reader a slips 1 votes 9; reader b slips 1 votes 1; reader c slips 1 votes 1; reader d slips 1 votes 1; reader e slips 1 votes 1; reader f slips 1 votes 1;");
        Check.told(x, x.verdict(63), 15, 16);
        x = Check.with("reader a slips 1 votes 1; reader b slips 1 votes 1; reader c slips 1 votes 1; reader d slips 1 votes 1; reader e slips 1 votes 1; reader f slips 1 votes 1;");
        // 15^6 + 6 * 15^5 + 15 * 15^4 of 16^6, by 2.
        Check.told(x, x.verdict(63), (11390625 + 6 * 759375 + 15 * 50625) / 2, 16777216 / 2);
        x = Check.with("reader a slips 1 votes 9; reader b slips 1 votes 1; reader c slips 3 votes 8; reader d slips 5 votes 1; reader e slips 7 votes 1; reader f slips 9 votes 1;");
        Check.gave(x, x.verdict(63));
        Check.is(x.top() % 2, 1);
        Check.is(16777216 % x.bottom(), 0);
    }

    /** Promises 3, 4: "of the FRACTION told latest": a call that is refused, or tells none, leaves it. */
    static void boundFractionToldLatest() {
        CatWitness x = Check.with("sign c means clean; sign d means guilty; rule c; reader a slips 4 votes 1; person p fed 2; person q fed 3;");
        Check.told(x, x.verdict(1), 3, 4);
        x.tray(0, 0, 3);
        Check.none(x, x.tells(1), 6);
        Check.none(x, x.tells(2), 1);
        Check.none(x, x.verdict(0), 1);
        Check.none(x, x.power(1), 1);
        Check.none(x, x.odds(0, 1, 0), 2);
        Check.none(x, x.mean(0, 1), 6);
        x.write(0, 2, 1);
        Check.none(x, x.odds(0, 0, 1), 6);
        x.mark();
        x.told(12);
        Check.is(x.top(), 3);
        Check.is(x.bottom(), 4);
        Check.told(x, x.tells(0), 1, 2);
        Check.told(x, x.power(0), 1, 1);
        Check.weeks(x, "night;");
        Check.told(x, x.mean(0, 2), 5, 1);
        Check.told(x, x.odds(1, 0, 0), 1, 2);
        x.undo();
        Check.is(x.top(), 1);
        Check.is(x.bottom(), 2);
    }

    // ---- TRAYS.

    /** "TRAYS 0 to 3 ... rows of 0 to 60 numbers of 8 bits (sort 0), 16 (1), 32 (2) or 64 (3)"; "(1)". */
    static void boundTraysOf0To60() {
        CatWitness x = new CatWitness();
        for (int tray = 0; tray < 4; tray++) {
            for (int sort = 0; sort < 4; sort++) {
                Check.gave(x, x.tray(tray, sort, 60));
                Check.gave(x, x.read(tray, 0), 0);
                Check.gave(x, x.read(tray, 59), 0);
                Check.none(x, x.read(tray, 60), 3);
                Check.gave(x, x.tray(tray, sort, 1));
                Check.gave(x, x.read(tray, 0), 0);
                Check.none(x, x.read(tray, 1), 3);
                Check.gave(x, x.tray(tray, sort, 0));
                Check.none(x, x.read(tray, 0), 3);
            }
        }
        for (int odd : new int[] {MIN, -1, 61, 1 << 16, MAX}) {
            Check.none(x, x.tray(0, 0, odd), 1);
        }
        for (int odd : new int[] {MIN, -1, 4, 1 << 16, MAX}) {
            Check.none(x, x.tray(odd, 0, 1), 1);
            Check.none(x, x.tray(0, odd, 1), 1);
        }
        Check.none(x, x.read(0, 0), 3);
    }

    /** Promise 5: "A TRAY is a row of so many 0s": one that was there ahead, too. */
    static void boundTrayAnew() {
        CatWitness x = new CatWitness();
        x.tray(1, 3, 60);
        for (int i = 0; i < 60; i++) {
            x.write(1, i, -1 - i);
        }
        Check.gave(x, x.tray(1, 0, 2));
        Check.gave(x, x.read(1, 1), 0);
        Check.gave(x, x.tray(1, 3, 60));
        for (int i = 0; i < 60; i++) {
            Check.gave(x, x.read(1, i), 0);
        }
        // One that is refused leaves it.
        x.write(1, 7, 9);
        Check.none(x, x.tray(1, 0, 61), 1);
        Check.none(x, x.tray(1, 4, 1), 1);
        Check.gave(x, x.read(1, 7), 9);
    }

    /** Promise 6: "cut to its sort": what is too large, too small for it wraps around. */
    static void boundCutToItsSort() {
        CatWitness x = new CatWitness();
        for (int sort = 0; sort < 4; sort++) {
            x.tray(sort, sort, 1);
        }
        for (int sort = 0; sort < 3; sort++) {
            long half = 1L << (8 << sort) - 1;
            long[] written = {half - 1, half, half + 1, 2 * half - 1, 2 * half, 2 * half + 5, -half, -half - 1, -2 * half, Long.MAX_VALUE, Long.MIN_VALUE, -1};
            long[] due = {half - 1, -half, 1 - half, -1, 0, 5, -half, half - 1, 0, -1, 0, -1};
            for (int i = 0; i < due.length; i++) {
                Check.gave(x, x.write(sort, 0, written[i]));
                Check.gave(x, x.read(sort, 0), due[i]);
            }
        }
        for (long v : new long[] {Long.MIN_VALUE, Long.MAX_VALUE, -1, 0, 1L << 32}) {
            Check.gave(x, x.write(3, 0, v));
            Check.gave(x, x.read(3, 0), v);
        }
    }

    /** Promises 6, 7: "(1, 2, 3)": each ahead of those behind it; a place below 0 is one that the TRAY has not. */
    static void boundPlacesOfATray() {
        CatWitness x = new CatWitness();
        x.tray(0, 2, 5);
        for (int place : new int[] {MIN, -1, 5, 6, 60, 1 << 16, MAX}) {
            Check.none(x, x.read(0, place), 3);
            Check.none(x, x.write(0, place, 1), 3);
            Check.none(x, x.read(1, place), 2);
            Check.none(x, x.write(1, place, 1), 2);
            Check.none(x, x.read(4, place), 1);
            Check.none(x, x.write(-1, place, 1), 1);
        }
        Check.gave(x, x.write(0, 0, 3));
        Check.gave(x, x.write(0, 4, 4));
        for (int i = 0; i < 5; i++) {
            Check.gave(x, x.read(0, i), i == 0 ? 3 : i == 4 ? 4 : 0);
        }
    }

    /** Promise 7: "STATUS tells NONE from -1". */
    static void boundReadTellsNoneFromMinus1() {
        CatWitness x = new CatWitness();
        for (int sort = 0; sort < 4; sort++) {
            x.tray(sort, sort, 1);
            x.write(sort, 0, -1);
            Check.gave(x, x.read(sort, 0), -1);
            Check.none(x, x.read(sort, 1), 3);
        }
    }

    /** Promise 8: "come to another one's (or its own) place on, as they were". */
    static void boundPourIntoItself() {
        for (int place = 0; place <= 6; place++) {
            for (int at = 0; at <= 6; at++) {
                CatWitness x = new CatWitness();
                x.tray(0, 0, 6);
                x.tray(1, 0, 6);
                for (int i = 0; i < 6; i++) {
                    x.write(0, i, 10 + i);
                }
                int many = 6 - Math.max(place, at);
                Check.gave(x, x.pour(0, place, 1, at, many));
                Check.gave(x, x.pour(0, place, 0, at, many));
                for (int i = 0; i < 6; i++) {
                    boolean poured = i >= at && i < at + many;
                    Check.gave(x, x.read(0, i), 10 + (poured ? i - at + place : i));
                    Check.gave(x, x.read(1, i), poured ? 10 + i - at + place : 0);
                }
            }
        }
    }

    /** Promise 8: "(1: below 0, too; ... 3": no number too many, of either TRAY; a pour of none. */
    static void boundPourTooMany() {
        CatWitness x = new CatWitness();
        x.tray(0, 2, 60);
        x.tray(1, 2, 3);
        x.write(0, 59, 7);
        Check.gave(x, x.pour(0, 57, 1, 0, 3));
        Check.gave(x, x.read(1, 2), 7);
        Check.gave(x, x.pour(0, 0, 0, 0, 60));
        int[][] tooMany = {{0, 57, 1, 0, 4}, {0, 58, 1, 0, 3}, {0, 0, 1, 0, 4}, {0, 0, 1, 1, 3}, {0, 0, 1, 3, 1}, {0, 60, 1, 0, 1}, {0, 0, 0, 0, 61},
            {0, 61, 1, 0, 0}, {0, 0, 1, 4, 0}, {0, MAX, 1, 0, 1}, {0, 1, 1, 0, MAX}, {0, MAX, 1, MAX, MAX}, {0, 0, 1, MAX, 2}, {0, 0, 1, 2, MAX - 1}};
        for (int[] a : tooMany) {
            Check.none(x, x.pour(a[0], a[1], a[2], a[3], a[4]), 3);
        }
        // None come from the place behind the last, or to it.
        Check.gave(x, x.pour(0, 60, 1, 3, 0));
        Check.gave(x, x.pour(0, 0, 0, 0, 0));
        for (int low : new int[] {-1, MIN}) {
            Check.none(x, x.pour(low, 0, 1, 0, 1), 1);
            Check.none(x, x.pour(0, low, 1, 0, 1), 1);
            Check.none(x, x.pour(0, 0, low, 0, 1), 1);
            Check.none(x, x.pour(0, 0, 1, low, 1), 1);
            Check.none(x, x.pour(0, 0, 1, 0, low), 1);
        }
        Check.none(x, x.pour(4, 0, 1, 0, 1), 1);
        Check.none(x, x.pour(0, 0, 4, 0, 1), 1);
        int[] due = {0, 0, 7};
        for (int i = 0; i < 3; i++) {
            Check.gave(x, x.read(1, i), due[i]);
        }
    }

    /** Promise 8: "asked in this order": 1, 2, 8, 3. */
    static void boundPourInThisOrder() {
        CatWitness x = new CatWitness();
        x.tray(0, 0, 2);
        x.tray(1, 1, 2);
        Check.none(x, x.pour(0, 0, 1, 0, 1), 8);
        Check.none(x, x.pour(0, 0, 1, 0, 3), 8);
        Check.none(x, x.pour(0, 9, 1, 9, 0), 8);
        Check.none(x, x.pour(0, 0, 2, 0, 1), 2);
        Check.none(x, x.pour(2, 0, 0, 0, 1), 2);
        Check.none(x, x.pour(2, 0, 3, 9, 9), 2);
        Check.none(x, x.pour(2, -1, 3, 0, 1), 1);
        Check.none(x, x.pour(0, 0, 1, 0, -1), 1);
        Check.none(x, x.pour(0, 0, 1, -1, 3), 1);
        Check.none(x, x.pour(0, 3, 4, 0, 1), 1);
    }

    // ---- texts.

    /** Promise 9: "Twenty bytes come behind those on the tape, the highest of each int first". */
    static void boundFeedHighestByteFirst() {
        for (int place = 0; place < 20; place++) {
            int[] ints = new int[5];
            for (int i = 0; i < 20; i++) {
                ints[i / 4] |= (i == place ? 0xff : 32) << 24 - 8 * (i % 4);
            }
            CatWitness x = new CatWitness();
            Check.is(x.feed(0x20202020, 0x20202020, 0x20202020, 0x20202020, 0x20202020), 20);
            Check.is(x.feed(ints[0], ints[1], ints[2], ints[3], ints[4]), 40);
            Check.none(x, x.court(40), 9);
            Check.is(x.fault(0), 1);
            Check.is(x.fault(1), 20 + place);
        }
    }

    /** Promise 9: "how many it has; NONE if there would be more than 900": then the tape stays as it is. */
    static void boundTapeOf900() {
        CatWitness x = new CatWitness();
        for (int i = 1; i <= 45; i++) {
            Check.is(x.feed(0x0a200a20, 0x0a200a20, 0x0a200a20, 0x0a200a20, 0x0a200a20), 20 * i);
        }
        for (int i = 0; i < 3; i++) {
            Check.is(x.feed(-1, -1, -1, -1, -1), -1);
        }
        Check.none(x, x.court(901), 1);
        Check.gave(x, x.court(900), 0);
        Check.is(x.feed(0, 0, 0, 0, 0), 20);
    }

    /** Promises 10, 11: "The first n bytes of the tape (which is empty then)": with STATUS 0 and 9; "(1: n below 0, or more than the tape has, too": it stays. */
    static void boundTapeIsEmptyThen() {
        CatWitness x = new CatWitness();
        Check.feed(x, "person p; person p;");
        for (int n : new int[] {-1, MIN, 21, 901, MAX}) {
            Check.none(x, x.court(n), 1);
            Check.none(x, x.weeks(n), 1);
        }
        Check.gave(x, x.court(9), 1);
        Check.none(x, x.court(1), 1);
        Check.is(x.feed(0, 0, 0, 0, 0), 20);
        Check.none(x, x.court(20), 9);
        Check.none(x, x.court(1), 1);
        Check.is(x.feed(0x6e696768, 0x743b2020, 0, 0, 0), 20);
        Check.gave(x, x.weeks(6), 1);
        Check.none(x, x.weeks(1), 1);
        Check.is(x.feed(0, 0, 0, 0, 0), 20);
        Check.none(x, x.weeks(20), 9);
        Check.none(x, x.weeks(1), 1);
        // With n 0, too.
        Check.is(x.feed(-1, -1, -1, -1, -1), 20);
        Check.gave(x, x.court(0), 0);
        Check.is(x.feed(-1, -1, -1, -1, -1), 20);
        Check.gave(x, x.weeks(0), 0);
        Check.is(x.feed(0, 0, 0, 0, 0), 20);
    }

    /** Promise 12: "Of the latest court() or weeks() with STATUS 0 or 9 ... NONE for others, and ahead of any." */
    static void boundFaultOfTheLatest() {
        CatWitness x = new CatWitness();
        fault(x, -1, -1);
        x.court(1);
        x.weeks(-1);
        fault(x, -1, -1);
        Check.weeks(x, "any; zz;");
        fault(x, 2, 5);
        x.court(0);
        fault(x, 0, -1);
        Check.court(x, "person");
        fault(x, 2, 6);
        x.court(1);
        x.weeks(301);
        x.told(0);
        x.mark();
        x.undo();
        fault(x, 2, 6);
        x.weeks(0);
        fault(x, 0, -1);
        Check.court(x, "!");
        fault(x, 1, 0);
    }

    private static void fault(CatWitness x, int kind, int place) {
        Check.is(x.fault(0), kind);
        Check.is(x.fault(1), place);
        for (int other : new int[] {MIN, -1, 2, 3, MAX}) {
            Check.is(x.fault(other), -1);
        }
    }

    // ---- what is told.

    /** Promises 13 to 18: "(1)": of what number, and of which. */
    static void boundToldOfWhat() {
        CatWitness x = Check.with("smell s; sign c means clean; sign d means guilty; rule c; rule d; rule c; person p; person q; reader r slips 1 votes 1; word p clean;");
        for (int odd : new int[] {MIN, -1, 13, 32, MAX}) {
            Check.none(x, x.told(odd), 1);
        }
        for (int odd : new int[] {MIN, -1, 5, 32, MAX}) {
            Check.none(x, x.rule(0, odd), 1);
            Check.none(x, x.person(0, odd), 1);
        }
        for (int odd : new int[] {MIN, -1, 2, 32, MAX}) {
            Check.none(x, x.reader(0, odd), 1);
            Check.none(x, x.word(0, odd), 1);
            Check.none(x, x.sense(odd), 1);
            Check.none(x, x.person(odd, 0), 1);
        }
        Check.gave(x, x.rule(2, 0), 0);
        Check.gave(x, x.person(1, 0), 0);
        for (int odd : new int[] {MIN, -1, 3, 8, MAX}) {
            Check.none(x, x.rule(odd, 0), 1);
        }
        for (int odd : new int[] {MIN, -1, 1, 10, MAX}) {
            Check.none(x, x.reader(odd, 0), 1);
            Check.none(x, x.word(odd, 0), 1);
        }
    }

    /** Promise 13: "VOTES of all READERS (12)", "sets of PEOPLE ... who WAIT (8)": of none, of all six. */
    static void boundVotesAndSetsOfAll() {
        String readers = "";
        for (char c = 'a'; c <= 'g'; c++) {
            CatWitness x = Check.with(readers);
            Check.gave(x, x.told(12), 9 * (c - 'a'));
            Check.gave(x, x.told(4), c - 'a');
            Check.gave(x, x.told(8), 0);
            x = Check.with(readers.replace("reader", "person").replace("slips 16 votes 9", "guilty"));
            Check.gave(x, x.told(12), 0);
            Check.gave(x, x.told(8), (1 << c - 'a') - 1);
            Check.gave(x, x.told(11), (1 << c - 'a') - 1);
            readers += "reader " + c + " slips 16 votes 9;";
        }
        CatWitness x = Check.with("sign y means clean; sign z means guilty; rule y clean; rule z; person a guilty; person b; person c guilty; person d; person e guilty; person f;");
        Check.gave(x, x.term(), 42);
        Check.gave(x, x.told(8), 0);
        Check.gave(x, x.told(9), 42);
        Check.gave(x, x.told(10), 21);
        Check.gave(x, x.told(11), 21);
    }

    /** Promise 15: "(1; 6: it has none: 2, 3, 4)": a NUMBER of 0, the SMELL 0 are there. */
    static void boundRuleHasNone() {
        CatWitness x = Check.with("smell s; sign c means clean; rule c; rule c fed = 0 warm = 0 smells s;");
        for (int what = 2; what <= 4; what++) {
            Check.none(x, x.rule(0, what), 6);
            Check.gave(x, x.rule(1, what), 0);
            Check.none(x, x.rule(2, what), 1);
        }
        Check.gave(x, x.rule(0, 0), 0);
        Check.gave(x, x.rule(0, 1), 0);
    }

    // ---- paragraph 2.

    /** "A RULE bears on a PERSON, if all that it has is so: ... his FED, WARM against its NUMBERS": just below, at and above each. */
    static void boundFedAndWarmAgainstNumbers() {
        String[] compares = {"<", "=", ">"};
        for (int k = 0; k < 3; k++) {
            for (int number : new int[] {0, 1, 50, 98, 99}) {
                CatWitness x = Check.with("sign c means clean; rule c fed " + compares[k] + " " + number + "; person p fed " + Math.max(0, number - 1)
                    + "; person q fed " + number + "; person r fed " + Math.min(99, number + 1) + ";");
                int[] feds = {Math.max(0, number - 1), number, Math.min(99, number + 1)};
                for (int p = 0; p < 3; p++) {
                    boolean is = k == 0 ? feds[p] < number : k == 1 ? feds[p] == number : feds[p] > number;
                    Check.gave(x, x.bearing(p), is ? 1 : 0);
                }
            }
            for (int number = 0; number <= 9; number++) {
                CatWitness x = Check.with("sign c means clean; rule c warm " + compares[k] + " " + number + "; person p;");
                for (int warm = 0; warm <= 9; warm++) {
                    boolean is = k == 0 ? warm < number : k == 1 ? warm == number : warm > number;
                    x.cueAt(0, warm);
                    Check.is(x.status(), is ? 0 : 6);
                }
            }
        }
    }

    /** "GUILTY, or not; ... he has its SMELL. SHOWN before him is the CUE of the first RULE that bears; none, if none does." */
    static void boundFirstRuleThatBears() {
        CatWitness x = Check.with("smell s; smell t; sign c means clean; sign d means guilty; sign e means nothing;"
            + " rule e guilty smells t; rule d guilty; rule c clean smells s; rule d smells t; rule e clean fed > 0 smells s;"
            + " person p; person q guilty; person r smells s; person u smells t; person v guilty smells s t; person w fed 1 smells s t;");
        int[] cues = {3, 1, 0, 1, 2, 0};
        int[] sets = {0, 2, 4, 8, 11, 28};
        int[] first = {-1, 1, 2, 3, 0, 2};
        for (int p = 0; p < 6; p++) {
            Check.gave(x, x.bearing(p), sets[p]);
            if (cues[p] == 3) {
                Check.none(x, x.cue(p), 6);
                Check.none(x, x.cueAt(p, 0), 6);
                Check.none(x, x.bears(p), 6);
            } else {
                Check.gave(x, x.cue(p), cues[p]);
                Check.gave(x, x.cueAt(p, 0), cues[p]);
                Check.gave(x, x.bears(p), first[p]);
            }
            Check.gave(x, x.sit(p), cues[p]);
        }
    }

    /** "then WARM is 1 more (9 at most)". */
    static void boundWarmOf9() {
        CatWitness x = Check.with("sign c means nothing; rule c warm = 9; person p; person q;");
        for (int i = 1; i <= 9; i++) {
            Check.gave(x, x.sit(0), 1);
            Check.gave(x, x.told(6), i);
        }
        for (int i = 0; i < 3; i++) {
            Check.gave(x, x.sit(1), 0);
            Check.gave(x, x.told(6), 9);
        }
        Check.gave(x, x.told(7), 12);
        // In a TERM, too.
        x.night();
        for (int i = 1; i <= 6; i++) {
            x.term();
            Check.gave(x, x.told(6), Math.min(9, 2 * i));
        }
        Check.gave(x, x.night(), 9);
    }

    /** "there is a SITTING more (9,999 at most)"; promise 19: "(1; 4: above 9,999)". */
    static void boundSittingsOf9999() {
        CatWitness x = Check.worn("sign c means clean; rule c warm = 0; person p; person q;", "p", 9998);
        Check.gave(x, x.sit(1), 0);
        Check.gave(x, x.told(7), 9999);
        Check.none(x, x.sit(0), 4);
        Check.none(x, x.sit(1), 4);
        // 1 ahead of 4; what is refused leaves all.
        Check.none(x, x.sit(2), 1);
        Check.none(x, x.sit(-1), 1);
        Check.gave(x, x.told(6), 1);
        Check.gave(x, x.told(7), 9999);
        Check.gave(x, x.person(0, 4), 9998);
        Check.gave(x, x.person(1, 4), 1);
        // A new COURT has had none.
        Check.gave(x, Check.court(x, "person p;"), 1);
        Check.gave(x, x.sit(0), 0);
    }

    /** "A SITTING before a PERSON: a CUE is SHOWN, or none": only a TERM makes him FREE, HELD; one who does not WAIT can be sat before. */
    static void boundSittingBeforeAnyone() {
        CatWitness x = Check.with("sign c means clean; sign d means guilty; rule d guilty; rule c; person p; person q guilty;");
        Check.gave(x, x.sit(0), 0);
        Check.gave(x, x.sit(1), 1);
        Check.gave(x, x.told(8), 3);
        Check.gave(x, x.term(), 1);
        Check.gave(x, x.sit(0), 0);
        Check.gave(x, x.sit(1), 1);
        Check.gave(x, x.person(0, 2), 1);
        Check.gave(x, x.person(1, 2), 2);
        Check.gave(x, x.person(0, 4), 3);
        // None: as many as there are CUES, be it none.
        CatWitness y = Check.with("person p;");
        Check.gave(y, y.sit(0), 0);
        y = Check.with("sign c means clean; sign d means clean; person p;");
        Check.gave(y, y.sit(0), 2);
    }

    /** "A TERM: a SITTING before each who WAITS, one by one; he is FREE, if the CUE means that he is clean, HELD, if guilty, else he WAITS on." */
    static void boundTermOneByOne() {
        String court = "sign c means clean; sign d means guilty; sign e means nothing; rule c warm = 1; rule d warm = 2; rule e warm = 3;"
            + " person p; person q; person r; person s; person t; person u;";
        CatWitness x = Check.with(court);
        Check.gave(x, x.term(), 2);
        Check.gave(x, x.told(8), 1 + 8 + 16 + 32);
        Check.gave(x, x.told(9), 2);
        Check.gave(x, x.told(10), 4);
        Check.gave(x, x.told(6), 6);
        x.night();
        // p at 0, s at 1, t at 2, u at 3.
        Check.gave(x, x.term(), 8);
        Check.gave(x, x.told(10), 4 + 16);
        Check.gave(x, x.told(7), 10);
        x.night();
        Check.gave(x, x.term(), 32);
        x.night();
        Check.gave(x, x.term(), 0);
        x.sit(1);
        x.night();
        x.sit(1);
        Check.gave(x, x.term(), 1);
        Check.none(x, x.term(), 7);
        // Who WAITS again is sat before again.
        x.appeal(2);
        x.night();
        Check.gave(x, x.term(), 0);
        Check.gave(x, x.told(8), 4);
        Check.gave(x, x.person(2, 4), 2);
    }

    /** Promise 20: "(4: above 9,999 SITTINGS; 7: nobody WAITS)". */
    static void boundTermAbove9999() {
        String court = "sign c means clean; rule c warm = 0; person p; person q; person r;";
        CatWitness x = Check.worn(court, "q", 9997);
        Check.none(x, x.term(), 4);
        Check.gave(x, x.told(7), 9997);
        Check.gave(x, x.told(6), 0);
        Check.gave(x, x.told(8), 7);
        Check.gave(x, x.person(0, 4), 0);
        // 9,996 and 3 are not above.
        CatWitness y = Check.worn(court, "q", 9996);
        Check.gave(y, y.term(), 1);
        Check.gave(y, y.told(7), 9999);
        Check.none(y, y.term(), 4);
        // Of nobody who WAITS: 7, at 9,999, too.
        CatWitness z = Check.worn("sign c means clean; rule c; person p;", "p", 9998);
        Check.gave(z, z.term(), 1);
        Check.gave(z, z.told(7), 9999);
        Check.none(z, z.term(), 7);
        z.appeal(0);
        Check.none(z, z.term(), 4);
    }

    /** "FEED: FED of a PERSON is so much more (99 at most)"; promise 21: "so often (1 to 99) ... (1; 7: he has FED 99)". */
    static void boundFedOf99() {
        CatWitness x = Check.with("person p; person q fed 98; person r fed 99;");
        Check.gave(x, x.meal(1, 1), 99);
        Check.none(x, x.meal(1, 1), 7);
        Check.none(x, x.meal(2, 1), 7);
        Check.none(x, x.meal(2, 99), 7);
        for (int odd : new int[] {MIN, -1, 0, 100, MAX}) {
            Check.none(x, x.meal(0, odd), 1);
            Check.none(x, x.meal(2, odd), 1);
        }
        Check.gave(x, x.person(0, 0), 0);
        Check.gave(x, x.meal(0, 1), 1);
        Check.gave(x, x.meal(0, 99), 99);
        Check.gave(x, x.person(2, 0), 99);
        CatWitness y = Check.with("person p; person q fed 50;");
        Check.gave(y, y.meal(0, 99), 99);
        Check.gave(y, y.meal(1, 48), 98);
        Check.gave(y, y.meal(1, 2), 99);
        Check.none(y, y.meal(2, 1), 1);
    }

    /** "RUB: he has a SMELL; WASH: he has not"; promise 22: "(1; 7: it is so)". */
    static void boundRubAndWash() {
        CatWitness x = Check.with("smell a; smell b; smell c; smell d; smell e; person p; person q smells a b c d e;");
        for (int s = 0; s < 5; s++) {
            Check.none(x, x.scent(0, s, false), 7);
            Check.none(x, x.scent(1, s, true), 7);
            Check.gave(x, x.scent(0, s, true));
            Check.gave(x, x.scent(1, s, false));
            Check.gave(x, x.person(0, 1), (2 << s) - 1);
            Check.gave(x, x.person(1, 1), 31 - (2 << s) + 1);
        }
        for (int odd : new int[] {MIN, -1, 5, 32, MAX}) {
            Check.none(x, x.scent(0, odd, true), 1);
            Check.none(x, x.scent(0, odd, false), 1);
            Check.none(x, x.scent(odd, 0, true), 1);
        }
        Check.gave(x, x.person(0, 1), 31);
        Check.gave(x, x.person(1, 1), 0);
    }

    /** "NIGHT: WARM is 0"; promise 23: "(7: it is 0)". */
    static void boundNightOfWarm0() {
        CatWitness x = Check.with("person p;");
        Check.none(x, x.night(), 7);
        for (int warm = 1; warm <= 11; warm++) {
            for (int i = 0; i < warm; i++) {
                x.sit(0);
            }
            Check.gave(x, x.night(), Math.min(9, warm));
            Check.none(x, x.night(), 7);
            Check.gave(x, x.told(6), 0);
        }
    }

    /** Promises 24, 25: "(1; 7: he WAITS)", "(1; 7: it is so)". */
    static void boundAppealAndBlame() {
        CatWitness x = Check.with("sign c means clean; sign d means guilty; rule d guilty; rule c warm > 0; person p guilty; person q;");
        Check.none(x, x.appeal(0), 7);
        Check.none(x, x.appeal(1), 7);
        Check.none(x, x.blame(0, true), 7);
        Check.none(x, x.blame(1, false), 7);
        x.term();
        Check.gave(x, x.appeal(0), 2);
        Check.gave(x, x.appeal(1), 1);
        Check.none(x, x.appeal(0), 7);
        Check.gave(x, x.blame(0, false));
        Check.none(x, x.blame(0, false), 7);
        Check.gave(x, x.blame(1, true));
        Check.none(x, x.blame(1, true), 7);
        for (int odd : new int[] {MIN, -1, 2, 32, MAX}) {
            Check.none(x, x.appeal(odd), 1);
            Check.none(x, x.blame(odd, true), 1);
            Check.none(x, x.blame(odd, false), 1);
        }
        Check.gave(x, x.told(11), 2);
        // One who is FREE, HELD can be blamed, and stays so.
        x.term();
        Check.gave(x, x.told(9), 1);
        Check.gave(x, x.blame(0, true));
        Check.gave(x, x.told(9), 1);
    }

    /** Promise 26: "(0 to 2) (1)": the same again is none of what can't be. */
    static void boundSensesOf0To2() {
        CatWitness x = Check.with("sign c means clean; rule c; person p;");
        for (int sense = 0; sense <= 2; sense++) {
            Check.gave(x, x.reread(0, sense));
            Check.gave(x, x.reread(0, sense));
            Check.gave(x, x.sense(0), sense);
            Check.gave(x, x.freeIn(1), sense == 2 ? 1 : 0);
        }
        for (int odd : new int[] {MIN, -1, 3, MAX}) {
            Check.none(x, x.reread(0, odd), 1);
        }
        for (int odd : new int[] {MIN, -1, 1, 32, MAX}) {
            Check.none(x, x.reread(odd, 0), 1);
        }
        Check.gave(x, x.sense(0), 2);
    }

    /** Promise 27: "a CUE, 0 whoever, 1 guilty, 2 clean, a SMELL (5: none): its number (1; 4: a ninth)". */
    static void boundEnactANinth() {
        CatWitness x = Check.with("smell a; smell b; smell c; smell d; smell e; sign f means clean; sign g means guilty;");
        for (int i = 0; i < 8; i++) {
            for (int odd : new int[] {MIN, -1, 3, MAX}) {
                Check.none(x, x.enact(0, odd, 0), 1);
            }
            for (int odd : new int[] {MIN, -1, 6, 32, MAX}) {
                Check.none(x, x.enact(0, 0, odd), 1);
            }
            Check.none(x, x.enact(2, 0, 0), 1);
            Check.gave(x, x.enact(i % 2, i % 3, i % 6), i);
            Check.gave(x, x.rule(i, 0), i % 2);
            Check.gave(x, x.rule(i, 1), i % 3);
            if (i % 6 == 5) {
                Check.none(x, x.rule(i, 4), 6);
            } else {
                Check.gave(x, x.rule(i, 4), i % 6);
            }
            Check.none(x, x.rule(i, 2), 6);
            Check.none(x, x.rule(i, 3), 6);
        }
        Check.none(x, x.enact(0, 0, 5), 4);
        Check.none(x, x.enact(1, 2, 4), 4);
        // 1 ahead of 4.
        Check.none(x, x.enact(2, 0, 0), 1);
        Check.none(x, x.enact(0, 3, 0), 1);
        Check.none(x, x.enact(0, 0, 6), 1);
        Check.gave(x, x.told(2), 8);
        // Without SMELLS there is none but 5.
        CatWitness y = Check.with("sign c means clean;");
        for (int smell = 0; smell < 5; smell++) {
            Check.none(y, y.enact(0, 0, smell), 1);
        }
        Check.gave(y, y.enact(0, 0, 5), 0);
    }

    /** Promise 27: "A RULE more": it has nothing but that, whatever stood in its place. */
    static void boundEnactInPlaceOfOneThatWent() {
        for (String had : new String[] {"fed > 5", "fed < 1", "warm > 5", "warm < 1", "guilty fed = 7 warm = 7 smells s", "clean fed < 0"}) {
            CatWitness x = Check.with("smell s; sign c means clean; rule c " + had + "; person p fed 3; person q guilty fed 99; person r fed 0 smells s;");
            x.sit(0);
            x.repeal(0);
            Check.gave(x, x.enact(0, 0, 5), 0);
            for (int p = 0; p < 3; p++) {
                for (int warm = 0; warm <= 9; warm++) {
                    Check.gave(x, x.cueAt(p, warm), 0);
                }
            }
            Check.gave(x, x.reach(0), 840);
            for (int what = 2; what <= 4; what++) {
                Check.none(x, x.rule(0, what), 6);
            }
        }
    }

    /** Promise 28: "A RULE goes, those behind it have a number less: how many there are then (1)". */
    static void boundRepealFirstAndLast() {
        String eight = "sign c means clean;";
        for (int i = 0; i < 8; i++) {
            eight += "rule c fed = " + i + ";";
        }
        for (int gone = 0; gone < 8; gone++) {
            CatWitness x = Check.with(eight);
            Check.gave(x, x.repeal(gone), 7);
            for (int r = 0; r < 7; r++) {
                Check.gave(x, x.rule(r, 2), r < gone ? r : r + 1);
            }
            Check.none(x, x.rule(7, 2), 1);
            Check.none(x, x.repeal(7), 1);
        }
        CatWitness x = Check.with(eight);
        for (int left = 7; left >= 0; left--) {
            Check.none(x, x.repeal(left + 1), 1);
            Check.none(x, x.repeal(-1), 1);
            Check.gave(x, x.repeal(left / 2), left);
        }
        Check.none(x, x.repeal(0), 1);
        Check.gave(x, x.told(2), 0);
    }

    /** Promise 29: "(0 to 16) (1)". */
    static void boundSlipsOf0To16() {
        CatWitness x = Check.with("reader a slips 8 votes 1; reader b slips 8 votes 1;");
        for (int slip = 0; slip <= 16; slip++) {
            Check.gave(x, x.strain(1, slip));
            Check.gave(x, x.reader(1, 0), slip);
        }
        for (int odd : new int[] {MIN, -1, 17, MAX}) {
            Check.none(x, x.strain(1, odd), 1);
        }
        for (int odd : new int[] {MIN, -1, 2, 32, MAX}) {
            Check.none(x, x.strain(odd, 3), 1);
        }
        Check.gave(x, x.reader(0, 0), 8);
        Check.gave(x, x.reader(1, 0), 16);
    }

    // ---- what it shows.

    /** Promises 30 to 34: "(1; 6: nothing)", "(0 to 9) (1; 6)", "(1; 6: none)", "(1)". */
    static void boundWhatItShows() {
        CatWitness x = Check.with("sign c means clean; rule c warm = 0; rule c warm = 9; person p; person q;");
        Check.gave(x, x.cueAt(1, 0), 0);
        Check.gave(x, x.cueAt(1, 9), 0);
        Check.none(x, x.cueAt(1, 1), 6);
        Check.none(x, x.cueAt(1, 8), 6);
        for (int odd : new int[] {MIN, -1, 10, MAX}) {
            Check.none(x, x.cueAt(1, odd), 1);
        }
        for (int odd : new int[] {MIN, -1, 2, 32, MAX}) {
            Check.none(x, x.cue(odd), 1);
            Check.none(x, x.cueAt(odd, 5), 1);
            Check.none(x, x.bears(odd), 1);
            Check.none(x, x.bearing(odd), 1);
        }
        for (int odd : new int[] {MIN, -1, 1, 32, MAX}) {
            Check.none(x, x.shown(odd), 1);
        }
        Check.gave(x, x.shown(0), 3);
        x.sit(0);
        Check.none(x, x.cue(0), 6);
        Check.none(x, x.bears(0), 6);
        Check.gave(x, x.bearing(0), 0);
        Check.gave(x, x.shown(0), 0);
    }

    /** Promise 35: "behind so many TERMS (0 to 40) (1)": 0 tells who is FREE now. */
    static void boundFreeIn0To40() {
        // Each TERM warms by one more who WAITS; all are FREE at 9.
        CatWitness x = Check.with("sign c means clean; rule c warm = 9; rule c guilty warm = 3; person p; person q guilty;");
        for (int terms = 0; terms <= 40; terms++) {
            int warm = 0;
            boolean p = false;
            boolean q = false;
            for (int i = 0; i < terms; i++) {
                boolean pWaits = !p;
                boolean qWaits = !q;
                if (pWaits) {
                    p = warm == 9;
                    warm = Math.min(9, warm + 1);
                }
                if (qWaits) {
                    q = warm == 9 || warm == 3;
                    warm = Math.min(9, warm + 1);
                }
            }
            Check.gave(x, x.freeIn(terms), (p ? 1 : 0) + (q ? 2 : 0));
        }
        for (int odd : new int[] {MIN, -1, 41, MAX}) {
            Check.none(x, x.freeIn(odd), 1);
        }
        Check.gave(x, x.told(7), 0);
        x.term();
        x.term();
        Check.gave(x, x.freeIn(0), 2);
    }

    /** Promise 36: "In how many TERMS (1 to 40) ... (1; 6: in none of these; 7: he does not WAIT)". */
    static void boundJudgedIn1To40() {
        CatWitness x = Check.with("sign c means clean; sign d means guilty; rule c warm = 0; rule d guilty warm = 9; person p; person q guilty; person r;");
        Check.gave(x, x.judgedIn(0), 1);
        // q: at WARM 1, 3, 5, 7, then 9.
        Check.gave(x, x.judgedIn(1), 5);
        Check.none(x, x.judgedIn(2), 6);
        for (int odd : new int[] {MIN, -1, 3, 32, MAX}) {
            Check.none(x, x.judgedIn(odd), 1);
        }
        x.term();
        Check.none(x, x.judgedIn(0), 7);
        Check.gave(x, x.judgedIn(1), 4);
        x.appeal(0);
        Check.none(x, x.judgedIn(0), 6);
        // At the latest it is as warm as it can be in the 10th.
        CatWitness y = Check.with("sign d means guilty; rule d warm = 9; person p;");
        Check.gave(y, y.judgedIn(0), 10);
        y.sit(0);
        Check.gave(y, y.judgedIn(0), 9);
        Check.gave(y, y.told(7), 1);
    }

    /** Paragraph 3: "All ahead is as only TERMS are held (the 9,999th SITTING does not matter)." */
    static void boundAheadOf9999() {
        CatWitness x = Check.worn("sign c means clean; rule c warm = 2; person p; person q; person r;", "p", 9998);
        Check.none(x, x.term(), 4);
        Check.gave(x, x.freeIn(1), 4);
        Check.gave(x, x.judgedIn(2), 1);
        Check.none(x, x.judgedIn(0), 6);
        Check.gave(x, x.best(), 1);
        Check.gave(x, x.bestAt(2), 2);
        x.sit(0);
        Check.none(x, x.sit(0), 4);
        Check.gave(x, x.freeIn(1), 2);
        Check.gave(x, x.freeIn(40), 2);
        Check.gave(x, x.judgedIn(1), 1);
        Check.gave(x, x.best(), 1);
        Check.gave(x, x.bestAt(1), 1);
        Check.gave(x, x.game(1), 0);
        Check.gave(x, x.told(7), 9999);
    }

    // ---- paragraph 5.

    private interface Call {
        Object on(CatWitness x);
    }

    /** Each call that has a STATUS, as it goes well on judged(). */
    private static final Call[] GOING_WELL = {
        x -> x.tray(0, 0, 3), x -> x.write(0, 0, 1), x -> x.read(0, 0), x -> x.pour(0, 0, 1, 0, 1), x -> x.court(0), x -> x.weeks(0),
        x -> x.told(3), x -> x.sense(0), x -> x.rule(0, 0), x -> x.person(0, 0), x -> x.reader(0, 0), x -> x.word(0, 0),
        x -> x.sit(0), x -> x.term(), x -> x.meal(0, 1), x -> x.scent(0, 0, true), x -> x.night(), x -> x.appeal(0), x -> x.blame(0, true),
        x -> x.reread(0, 0), x -> x.enact(0, 0, 5), x -> x.repeal(0), x -> x.strain(0, 0),
        x -> x.cue(0), x -> x.cueAt(0, 0), x -> x.bears(0), x -> x.bearing(0), x -> x.shown(0), x -> x.freeIn(1), x -> x.judgedIn(2),
        x -> x.fits(0, 1), x -> x.sure(0, 0, 1), x -> x.odds(0, 0, 1), x -> x.ask(0, 0, 0), x -> x.least(0, 0), x -> x.leastBy(0, 0, 0),
        x -> x.reach(0), x -> x.idle(), x -> x.tells(0), x -> x.mute(), x -> x.verdict(1), x -> x.sworn(1), x -> x.power(0),
        x -> x.clash(), x -> x.struck(), x -> x.struckSet(), x -> x.best(), x -> x.bestAt(0), x -> x.game(1), x -> x.moveOf(1, 0),
        x -> x.copyFed(0), x -> x.live(0), x -> x.lived(0), x -> x.mean(0, 1), x -> x.mark(), x -> x.undo()};

    /** PEOPLE who are FREE, HELD, and one who WAITS, WARM, TRAYS, WEEKS, a MARK: there is all that calls could ask. */
    private static CatWitness judged() {
        CatWitness x = Check.with("smell s; sign c means clean; sign d means guilty; rule c clean; rule d guilty; person p; person q guilty; person r;"
            + " reader v slips 3 votes 4; word p clean;");
        x.mark();
        Check.weeks(x, "any;");
        x.live(0);
        x.term();
        x.appeal(2);
        x.tray(0, 0, 3);
        x.tray(1, 0, 1);
        return x;
    }

    /** "0 else": with each call that goes well, whatever the one ahead left. */
    static void boundStatus0Else() {
        // Of the 61 methods five have no STATUS.
        Check.is(GOING_WELL.length, 61 - 5);
        Call[] refusals = {x -> x.told(-1), x -> x.read(2, 0), x -> x.read(1, 1), x -> x.blame(1, true)};
        int[] statuses = {1, 2, 3, 7};
        for (Call call : GOING_WELL) {
            for (int i = 0; i < refusals.length; i++) {
                CatWitness x = judged();
                refusals[i].on(x);
                Check.is(x.status(), statuses[i]);
                Object got = call.on(x);
                Check.is(x.status(), 0);
                Check.is(got.equals(false) || got.equals(-1) || got.equals(-1L), false);
            }
        }
    }

    /** "STATUS of a call is the first of these that holds": 1 ahead of all that could hold with it. */
    static void boundFirstStatusThatHolds() {
        CatWitness x = Check.with("smell s; sign c means clean; person p fed 99;");
        Check.none(x, x.meal(0, 0), 1);
        Check.none(x, x.meal(0, 1), 7);
        Check.none(x, x.cueAt(0, 10), 1);
        Check.none(x, x.cueAt(0, 0), 6);
        Check.none(x, x.leastBy(0, 0, 2), 1);
        Check.none(x, x.leastBy(0, 0, 0), 6);
        Check.none(x, x.sworn(7), 1);
        Check.none(x, x.sworn(6), 6);
        Check.none(x, x.live(10000), 1);
        Check.none(x, x.live(9999), 6);
        Check.none(x, x.lived(5), 1);
        Check.none(x, x.lived(4), 6);
        Check.none(x, x.mean(9999, 2), 1);
        Check.none(x, x.mean(9999, 1), 6);
        Check.none(x, x.moveOf(4, 0), 1);
        Check.none(x, x.moveOf(1, 2), 1);
        // A TRAY: 1 ahead of 2, 2 ahead of 3, 3 ahead of 5, 5 ahead of 6.
        Check.none(x, x.ask(0, 21, 0), 1);
        Check.none(x, x.ask(0, 20, 2), 1);
        Check.none(x, x.sure(1, 0, 0), 1);
        Check.none(x, x.odds(1, 0, 0), 1);
        Check.none(x, x.ask(0, 20, 0), 2);
        Check.none(x, x.sure(0, 0, 20), 2);
        x.tray(0, 0, 5);
        x.write(0, 0, 9);
        Check.none(x, x.fits(0, 2), 3);
        Check.none(x, x.fits(0, 1), 5);
        Check.none(x, x.ask(0, 2, 0), 3);
        Check.none(x, x.ask(0, 1, 0), 5);
        x.write(0, 0, 0);
        Check.none(x, x.ask(0, 1, 0), 6);
        x.tray(0, 0, 6);
        x.write(0, 3, 1);
        Check.none(x, x.odds(0, 0, 2), 5);
        Check.none(x, x.copyFed(4), 1);
        Check.none(x, x.copyFed(1), 2);
        // A text: 1 ahead of 9.
        Check.feed(x, "!");
        Check.none(x, x.court(21), 1);
        Check.none(x, x.weeks(301), 1);
        Check.none(x, x.court(1), 9);
    }
}
