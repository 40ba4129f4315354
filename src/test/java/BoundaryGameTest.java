/**
 * The boundary cases that promises 37 to 62, and paragraphs 3 and 4 that they stand on, name: whose guilt it was,
 * WORLDS, READERS, WORDS, orders, games, lives, MARKS. Each method tests one sentence, or one clause of it, which stands above it.
 */
public final class BoundaryGameTest {
    private static final int MIN = Integer.MIN_VALUE;
    private static final int MAX = Integer.MAX_VALUE;
    /** Guilt is told at WARM 0 and at WARM 9 alone. */
    private static final String GUILT = "sign hiss means guilty; sign purr means clean; rule hiss guilty warm = 0; rule purr clean warm = 9;"
        + " person a; person b guilty; person c; person d; person e; person f;";

    public static void main(String[] args) {
        Check.bounds(BoundaryGameTest.class);
    }

    private static void threes(CatWitness x, int tray, long... numbers) {
        x.tray(tray, 3, numbers.length);
        for (int i = 0; i < numbers.length; i++) {
            x.write(tray, i, numbers[i]);
        }
    }

    // ---- FITS, ASK.

    /** "the first n (0 to 20) threes": what stands behind them does not matter; "(1; 2; 3; 5)". */
    static void boundThreesOf0To20() {
        CatWitness x = Check.with(GUILT);
        x.tray(0, 3, 60);
        for (int i = 0; i < 20; i++) {
            x.write(0, 3 * i, i % 6);
            x.write(0, 3 * i + 1, 5);
            x.write(0, 3 * i + 2, 2);
        }
        x.write(0, 57, 5);
        x.write(0, 58, 0);
        x.write(0, 59, 0);
        Check.gave(x, x.fits(0, 0), 64);
        Check.gave(x, x.fits(0, 19), 64);
        Check.gave(x, x.fits(0, 20), 32);
        Check.gave(x, x.sure(5, 0, 20), 1);
        Check.told(x, x.odds(5, 0, 20), 1, 1);
        Check.told(x, x.odds(5, 0, 19), 1, 2);
        Check.gave(x, x.ask(0, 20, 0), 0);
        for (int odd : new int[] {MIN, -1, 21, 1 << 30, MAX}) {
            Check.none(x, x.fits(0, odd), 1);
            Check.none(x, x.sure(0, 0, odd), 1);
            Check.none(x, x.odds(0, 0, odd), 1);
            Check.none(x, x.ask(0, odd, 0), 1);
        }
        x.write(0, 59, 3);
        Check.gave(x, x.fits(0, 19), 64);
        Check.none(x, x.fits(0, 20), 5);
        // A number too few.
        x.tray(1, 0, 59);
        Check.none(x, x.fits(1, 20), 3);
        Check.gave(x, x.fits(1, 19), 32);
        x.tray(1, 0, 2);
        Check.none(x, x.fits(1, 1), 3);
        Check.gave(x, x.fits(1, 0), 64);
        x.tray(1, 0, 0);
        Check.gave(x, x.fits(1, 0), 64);
        Check.none(x, x.sure(0, 1, 1), 3);
        Check.none(x, x.odds(0, 1, 1), 3);
        Check.none(x, x.ask(1, 1, 0), 3);
        for (int odd : new int[] {MIN, -1, 4, MAX}) {
            Check.none(x, x.fits(odd, 0), 1);
            Check.none(x, x.sure(0, odd, 0), 1);
            Check.none(x, x.odds(0, odd, 0), 1);
            Check.none(x, x.ask(odd, 0, 0), 1);
        }
        Check.none(x, x.fits(2, 0), 2);
        Check.none(x, x.sure(0, 2, 0), 2);
        Check.none(x, x.odds(0, 2, 0), 2);
        Check.none(x, x.ask(2, 0, 0), 2);
    }

    /** "by threes a PERSON, WARM (0 to 9), a CUE (as many as there are CUES: none)"; "5: a number in a TRAY that can't be". */
    static void boundNumbersOfAThree() {
        CatWitness x = Check.with(GUILT);
        long[] odd = {Long.MIN_VALUE, -1L << 32, -1, 1L << 32, 1L << 33, Long.MAX_VALUE};
        long[] over = {6, 10, 3};
        for (int what = 0; what < 3; what++) {
            for (int i = 0; i <= odd.length; i++) {
                threes(x, 0, 0, 0, 2);
                x.write(0, what, i < odd.length ? odd[i] : over[what]);
                Check.none(x, x.fits(0, 1), 5);
                Check.none(x, x.sure(0, 0, 1), 5);
                Check.none(x, x.odds(0, 0, 1), 5);
                Check.none(x, x.ask(0, 1, 0), 5);
                Check.gave(x, x.fits(0, 0), 64);
            }
        }
        // The least and the largest of each.
        threes(x, 0, 0, 0, 0);
        Check.gave(x, x.fits(0, 1), 32);
        threes(x, 0, 5, 9, 1);
        Check.gave(x, x.fits(0, 1), 32);
        threes(x, 0, 5, 9, 2);
        Check.gave(x, x.fits(0, 1), 32);
        Check.gave(x, x.sure(5, 0, 1), 1);
        // Without CUES, none is 0; without PEOPLE no three can be.
        CatWitness y = Check.with("person p;");
        threes(y, 0, 0, 9, 0);
        Check.gave(y, y.fits(0, 1), 2);
        threes(y, 0, 0, 9, 1);
        Check.none(y, y.fits(0, 1), 5);
        CatWitness z = new CatWitness();
        threes(z, 0, 0, 0, 0);
        Check.gave(z, z.fits(0, 0), 1);
        Check.none(z, z.fits(0, 1), 5);
    }

    /** "in how many ways all PEOPLE can be GUILTY, or not": from none to all 64; one call leaves nothing to the next. */
    static void boundWaysOf0To64() {
        CatWitness x = Check.with(GUILT);
        threes(x, 0, 0, 0, 0, 1, 0, 2, 2, 9, 1, 3, 9, 2, 4, 0, 0, 5, 0, 0, 5, 9, 1);
        int[] due = {64, 32, 16, 8, 4, 2, 1, 0};
        for (int round = 0; round < 3; round++) {
            for (int n = 7; n >= 0; n--) {
                Check.gave(x, x.fits(0, n), due[n]);
            }
        }
        Check.none(x, x.odds(0, 0, 7), 6);
        Check.told(x, x.odds(0, 0, 0), 1, 2);
        Check.none(x, x.sure(0, 0, 7), 6);
        Check.none(x, x.sure(0, 0, 0), 6);
        Check.gave(x, x.sure(0, 0, 1), 1);
        Check.gave(x, x.fits(0, 0), 64);
        // GUILTY, as they are, does not matter; FED, SMELLS do.
        x.blame(0, true);
        x.blame(1, false);
        Check.gave(x, x.fits(0, 1), 32);
        // One told twice tells no more than once.
        threes(x, 1, 0, 0, 0, 0, 0, 0, 1, 9, 1, 1, 9, 1, 1, 9, 1, 1, 9, 1);
        int[] twice = {64, 32, 32, 16, 16, 16, 16};
        for (int n = 0; n < twice.length; n++) {
            Check.gave(x, x.fits(1, n), twice[n]);
        }
        threes(x, 1, 0, 0, 2, 0, 0, 2, 1, 9, 2, 1, 9, 2);
        Check.gave(x, x.fits(1, 2), 32);
        Check.gave(x, x.sure(0, 1, 2), 0);
        Check.gave(x, x.fits(1, 4), 16);
        Check.gave(x, x.sure(1, 1, 4), 1);
        // What can't be SHOWN before him at all.
        threes(x, 1, 0, 5, 0);
        Check.gave(x, x.fits(1, 1), 0);
        threes(x, 1, 0, 5, 2, 0, 0, 1);
        Check.gave(x, x.fits(1, 2), 0);
        Check.gave(x, x.fits(1, 1), 64);
    }

    /** "(FED, SMELLS as they are)": as they are now, be they other than a call ago, or than in a TERM, a GAME, a life only reckoned. */
    static void boundFedAndSmellsAsTheyAre() {
        for (int guilty = 0; guilty < 2; guilty++) {
            CatWitness x = Check.with("smell s; smell t; sign c means clean; rule c " + (guilty == 1 ? "guilty" : "clean") + " fed > 4 smells t;"
                + " person p fed 4 smells t; person q fed 9 smells s;");
            threes(x, 0, 0, 0, 0, 1, 0, 0);
            fit(x, 1, 0, guilty);
            Check.gave(x, x.ask(0, 0, 0), 0);
            x.meal(0, 1);
            fit(x, 1, 2, guilty);
            fit(x, 2, 0, guilty);
            Check.gave(x, x.ask(0, 1, 0), 0);
            x.game(2);
            x.scent(1, 1, true);
            fit(x, 1, 2, guilty);
            fit(x, 2, 1, guilty);
            Check.gave(x, x.ask(0, 1, 0), 1);
            x.mark();
            x.scent(0, 1, false);
            fit(x, 1, 0, guilty);
            Check.gave(x, x.ask(0, 0, 0), 1);
            x.undo();
            fit(x, 2, 1, guilty);
            Check.gave(x, x.ask(0, 0, 0), 0);
            Check.weeks(x, "wash p t; feed q 9;");
            x.mean(0, 1);
            fit(x, 2, 1, guilty);
            x.live(0);
            fit(x, 1, 0, guilty);
            // What was not SHOWN of him tells the other guilt; the last one alone is left to be asked.
            CatWitness y = Check.with("smell s; smell t; sign c means clean; rule c " + (guilty == 1 ? "guilty" : "clean") + " fed = 7 warm = 9 smells t;"
                + " person p fed 7 smells s; person q fed 6 smells s t; person r fed 7 smells s t; person u fed 7 smells t;");
            threes(y, 0, 0, 9, 1, 1, 9, 1, 2, 9, 1, 3, 9, 0);
            int[] ways = {16, 16, 16, 8, 4};
            for (int n = 0; n <= 4; n++) {
                Check.gave(y, y.fits(0, n), ways[n]);
                Check.gave(y, y.ask(0, n, 0), n < 3 ? 2 : n < 4 ? 3 : 0);
                Check.gave(y, y.ask(0, n, 1), n < 4 ? 9 : 0);
            }
            Check.gave(y, y.sure(2, 0, 4), 1 - guilty);
            Check.gave(y, y.sure(3, 0, 4), guilty);
            Check.none(y, y.sure(0, 0, 4), 6);
            Check.told(y, y.odds(1, 0, 4), 1, 2);
        }
    }

    /** By the first n threes there are so many ways; in all of them each of the first n PEOPLE is GUILTY, or in none. */
    private static void fit(CatWitness x, int n, int ways, int guilty) {
        Check.gave(x, x.fits(0, n), ways);
        for (int p = 0; p < n; p++) {
            if (ways > 0) {
                Check.gave(x, x.sure(p, 0, n), guilty);
                Check.told(x, x.odds(p, 0, n), guilty, 1);
            } else {
                Check.none(x, x.sure(p, 0, n), 6);
                Check.none(x, x.odds(p, 0, n), 6);
            }
        }
    }

    /** Promise 38: "1 if a PERSON is GUILTY in all these ways, 0 if in none of them (... 6: neither, or there are none)". */
    static void boundSureOfAllOrNone() {
        CatWitness x = Check.with(GUILT);
        threes(x, 0, 0, 0, 0, 1, 9, 1, 2, 5, 2, 3, 0, 0, 3, 9, 1);
        Check.gave(x, x.sure(0, 0, 4), 1);
        Check.gave(x, x.sure(1, 0, 4), 0);
        Check.none(x, x.sure(2, 0, 4), 6);
        Check.gave(x, x.sure(3, 0, 4), 1);
        // There are none: of nobody, be he told of or not.
        for (int p = 0; p < 6; p++) {
            Check.none(x, x.sure(p, 0, 5), 6);
            Check.none(x, x.odds(p, 0, 5), 6);
        }
        for (int odd : new int[] {MIN, -1, 6, 32, MAX}) {
            Check.none(x, x.sure(odd, 0, 4), 1);
            Check.none(x, x.odds(odd, 0, 4), 1);
        }
        Check.told(x, x.odds(0, 0, 4), 1, 1);
        Check.told(x, x.odds(1, 0, 4), 0, 1);
        Check.told(x, x.odds(2, 0, 4), 1, 2);
    }

    /** Promise 40: "(... 6: fewer than two ways)"; "of several the first by PERSON, then by WARM". */
    static void boundAskOfTwoWays() {
        CatWitness x = Check.with(GUILT);
        threes(x, 0, 0, 0, 0, 1, 9, 1, 2, 0, 0, 3, 0, 0, 4, 9, 1, 5, 9, 2, 5, 0, 0, 5, 9, 1);
        int[] first = {0, 1, 2, 3, 4, 5};
        for (int n = 0; n < 6; n++) {
            Check.gave(x, x.ask(0, n, 0), first[n]);
            Check.gave(x, x.ask(0, n, 1), 0);
        }
        // One way, and none.
        Check.gave(x, x.fits(0, 6), 1);
        Check.none(x, x.ask(0, 6, 0), 6);
        Check.gave(x, x.fits(0, 8), 0);
        Check.none(x, x.ask(0, 8, 1), 6);
        for (int odd : new int[] {MIN, -1, 2, MAX}) {
            Check.none(x, x.ask(0, 0, odd), 1);
        }
        // Only the last one's guilt tells, only at WARM 9.
        CatWitness y = Check.with("smell s; sign c means clean; rule c guilty fed = 7 warm = 9 smells s; person p fed 7; person q smells s; person r fed 7 smells s;");
        threes(y, 0);
        Check.gave(y, y.ask(0, 0, 0), 2);
        Check.gave(y, y.ask(0, 0, 1), 9);
        // What parts them, but shows both the same CUE by another RULE, parts them not.
        y = Check.with("sign c means clean; rule c guilty warm < 9; rule c; person p;");
        threes(y, 0);
        Check.gave(y, y.ask(0, 0, 0), 0);
        Check.gave(y, y.ask(0, 0, 1), 0);
        // None is one thing SHOWN, too.
        y = Check.with("sign c means clean; rule c warm < 4; rule c clean warm = 6; person p;");
        threes(y, 0);
        Check.gave(y, y.ask(0, 0, 0), 0);
        Check.gave(y, y.ask(0, 0, 1), 6);
    }

    // ---- LEAST.

    /** "at most 20 FEEDINGS, FED 99 at most"; promise 41: "(1; 6: by none)". */
    static void boundLeastOf20Feedings() {
        CatWitness x = Check.with("sign c means clean; rule c fed = 25; person p fed 5; person q fed 4; person r fed 25; person s fed 26; person t fed 24;");
        Check.gave(x, x.least(0, 0), 20);
        Check.gave(x, x.leastBy(0, 0, 0), 20);
        Check.none(x, x.least(1, 0), 6);
        Check.none(x, x.leastBy(1, 0, 0), 6);
        Check.gave(x, x.least(2, 0), 0);
        Check.gave(x, x.leastBy(2, 0, 0), 0);
        Check.none(x, x.least(3, 0), 6);
        Check.gave(x, x.least(4, 0), 1);
        x = Check.with("sign c means clean; sign d means clean; rule c fed = 99; rule d fed > 99; person p fed 79; person q fed 78; person r fed 99; person s fed 98;");
        Check.gave(x, x.least(0, 0), 20);
        Check.none(x, x.least(1, 0), 6);
        Check.gave(x, x.least(2, 0), 0);
        Check.gave(x, x.least(3, 0), 1);
        for (int p = 0; p < 4; p++) {
            Check.none(x, x.least(p, 1), 6);
            Check.none(x, x.leastBy(p, 1, 1), 6);
        }
        // Nor is FED above 99, where no RULE that asks FED bears, come to by FEEDINGS.
        CatWitness y = Check.with("sign c means clean; sign d means clean; rule d fed > 50; rule c; person p fed 95; person q fed 99; person r fed 50;");
        Check.none(y, y.least(0, 0), 6);
        Check.none(y, y.least(1, 0), 6);
        Check.gave(y, y.least(2, 0), 0);
        Check.gave(y, y.least(2, 1), 1);
        for (int odd : new int[] {MIN, -1, 4, 32, MAX}) {
            Check.none(x, x.least(odd, 0), 1);
            Check.none(x, x.leastBy(odd, 0, 0), 1);
        }
        for (int odd : new int[] {MIN, -1, 2, 32, MAX}) {
            Check.none(x, x.least(0, odd), 1);
            Check.none(x, x.leastBy(0, odd, 0), 1);
            Check.none(x, x.leastBy(0, 0, odd), 1);
        }
        // It is but asked.
        Check.gave(x, x.person(0, 0), 79);
    }

    /** "the fewest deeds; of several ways that with the fewest FEEDINGS, then that by which his SMELLS are the least set as a number". */
    static void boundLeastOfSeveralWays() {
        String smells = "smell a; smell b; smell d; smell e; smell f; sign c means clean;";
        // Two deeds by FEEDINGS, one and one, or SMELLS alone.
        CatWitness x = Check.with(smells + " sign g means clean; rule g smells f; rule c smells e; rule c fed = 2; person p smells f;");
        Check.gave(x, x.least(0, 0), 2);
        Check.gave(x, x.leastBy(0, 0, 0), 0);
        Check.gave(x, x.leastBy(0, 0, 1), 8);
        // A WASH is as dear as a RUB; the lesser set is that of the WASH.
        x = Check.with(smells + " sign g means clean; rule c smells d; rule g smells a; rule c; person p smells a;");
        Check.gave(x, x.least(0, 0), 1);
        Check.gave(x, x.leastBy(0, 0, 1), 0);
        // All five to wash, and all five to rub.
        x = Check.with(smells + " sign g means clean; rule g smells a; rule g smells b; rule g smells d; rule g smells e; rule g smells f; rule c fed = 20;"
            + " person p smells a b d e f; person q smells b e;");
        Check.gave(x, x.least(0, 0), 25);
        Check.gave(x, x.leastBy(0, 0, 0), 20);
        Check.gave(x, x.leastBy(0, 0, 1), 0);
        Check.gave(x, x.least(1, 0), 22);
        // Nothing to do: as he is.
        Check.gave(x, x.least(0, 1), 0);
        Check.gave(x, x.leastBy(0, 1, 0), 0);
        Check.gave(x, x.leastBy(0, 1, 1), 31);
        // WARM as it is.
        x = Check.with("sign c means clean; rule c warm = 1; person p;");
        Check.none(x, x.least(0, 0), 6);
        x.sit(0);
        Check.gave(x, x.least(0, 0), 0);
        Check.gave(x, x.told(6), 1);
    }

    // ---- WORLDS.

    /** "WORLDS: GUILTY, or not, FED 0 to 20, WARM 0 to 9, all sets of SMELLS, each with each." */
    static void boundWorlds() {
        String[] names = "a b d e f".split(" ");
        String smells = "";
        for (int count = 0; count <= 5; count++) {
            int sets = 1 << count;
            CatWitness x = Check.with(smells + "sign c means clean;");
            Check.gave(x, x.mute(), 420 * sets);
            Check.gave(x, x.enact(0, 0, 5), 0);
            Check.gave(x, x.reach(0), 420 * sets);
            Check.gave(x, x.mute(), 0);
            String[] rules = {"fed = 0", "fed = 20", "fed = 21", "fed > 19", "fed > 20", "fed < 1", "fed < 21", "warm = 0", "warm = 9", "warm < 9", "warm > 8", "guilty",
                "clean", "guilty fed = 20 warm = 9"};
            int[] due = {20, 20, 0, 20, 0, 20, 420, 42, 42, 378, 42, 210, 210, 1};
            for (int i = 0; i < rules.length; i++) {
                CatWitness y = Check.with(smells + "sign c means clean; rule c " + rules[i] + ";");
                Check.gave(y, y.reach(0), due[i] * sets);
                Check.gave(y, y.mute(), (420 - due[i]) * sets);
                Check.gave(y, y.mute(), (420 - due[i]) * sets);
                Check.gave(y, y.idle(), due[i] == 0 ? 1 : 0);
            }
            if (count < 5) {
                smells += "smell " + names[count] + ";";
            }
        }
        // How all is now does not matter.
        CatWitness x = Check.with("sign c means clean; rule c fed = 3 warm = 0; person p guilty fed 99;");
        x.sit(0);
        Check.gave(x, x.reach(0), 2);
        for (int odd : new int[] {MIN, -1, 1, 32, MAX}) {
            Check.none(x, x.reach(odd), 1);
            Check.none(x, x.tells(odd), 1);
        }
    }

    /** "REACH of a RULE: in how many WORLDS it is the first that bears": those that ask a SMELL halve what is left. */
    static void boundReachOfSmells() {
        CatWitness x = Check.with("smell a; smell b; smell d; smell e; smell f; sign c means clean; sign g means guilty;"
            + " rule c smells f; rule g smells a; rule c smells d; rule c smells f; rule g smells a; rule c smells b; rule g guilty smells e; rule c smells d;");
        int[] due = {6720, 3360, 1680, 0, 0, 840, 210, 0};
        for (int r = 0; r < due.length; r++) {
            Check.gave(x, x.reach(r), due[r]);
        }
        Check.gave(x, x.idle(), 8 + 16 + 128);
        Check.gave(x, x.mute(), 630);
        Check.told(x, x.tells(0), 1, 2);
        Check.told(x, x.tells(1), (1680 + 210) / 210, (3360 + 210) / 210);
        // One that bears but at times takes the SMELL from those behind it at these times alone.
        CatWitness y = Check.with("smell a; smell b; sign c means clean; rule c warm < 3 smells a; rule c fed > 10 smells b; rule c smells a; rule c clean; rule c smells b; rule c;");
        for (int r = 0; r < 6; r++) {
            Check.gave(y, y.reach(r), worlds(r));
        }
        Check.gave(y, y.mute(), 0);
    }

    /** By going through all of them: in how many WORLDS a RULE of the second COURT ahead is the first. */
    private static int worlds(int rule) {
        int sum = 0;
        for (int world = 0; world < 2 * 21 * 10 * 4; world++) {
            boolean guilty = world % 2 == 1;
            int fed = world / 2 % 21;
            int warm = world / 42 % 10;
            int smells = world / 420;
            boolean[] bears = {warm < 3 && smells % 2 == 1, fed > 10 && smells / 2 == 1, smells % 2 == 1, !guilty, smells / 2 == 1, true};
            int first = 0;
            while (!bears[first]) {
                first++;
            }
            sum += first == rule ? 1 : 0;
        }
        return sum;
    }

    /** Promise 44: "The set of RULES with REACH 0": all of eight, or none. */
    static void boundIdleOfAll() {
        CatWitness x = Check.with("sign c means clean;" + "rule c fed > 20;".repeat(8));
        Check.gave(x, x.idle(), 255);
        x = Check.with("sign c means clean;" + "rule c;".repeat(8));
        Check.gave(x, x.idle(), 254);
        String eight = "sign c means clean;";
        for (int i = 0; i < 8; i++) {
            eight += "rule c warm = " + i + ";";
        }
        x = Check.with(eight);
        Check.gave(x, x.idle(), 0);
        Check.gave(x, x.mute(), 84);
    }

    /** Promise 45: "(1; 6: it is SHOWN in no WORLD)". */
    static void boundTellsOfNoWorld() {
        CatWitness x = Check.with("sign c means clean; sign d means guilty; sign e means nothing; rule c fed > 20; rule d; rule e; rule c guilty;");
        Check.none(x, x.tells(0), 6);
        Check.told(x, x.tells(1), 1, 2);
        Check.none(x, x.tells(2), 6);
        // In one alone.
        x = Check.with("sign c means clean; sign d means guilty; rule c guilty fed = 0 warm = 0; rule d clean fed = 20 warm = 9; rule d;");
        Check.told(x, x.tells(0), 1, 1);
        Check.told(x, x.tells(1), 209, 419);
        x = Check.with("sign c means clean; rule c clean;");
        Check.told(x, x.tells(0), 0, 1);
        Check.none(x, x.tells(1), 1);
    }

    // ---- READERS.

    /** "each one reads rightly, but for SLIP sixteenths; it is right, if VOTES of those who read rightly are more than those of the others"; "(1: nobody, too)". */
    static void boundVerdictOfMore() {
        CatWitness x = Check.with("reader a slips 0 votes 5; reader b slips 16 votes 5; reader c slips 16 votes 4; reader d slips 16 votes 1; reader e slips 0 votes 1;");
        Check.told(x, x.verdict(1), 1, 1);
        Check.told(x, x.verdict(2), 0, 1);
        // As many as the others are not more.
        Check.told(x, x.verdict(1 + 2), 0, 1);
        Check.told(x, x.verdict(1 + 4), 1, 1);
        Check.told(x, x.verdict(1 + 4 + 8), 0, 1);
        Check.told(x, x.verdict(1 + 2 + 16), 1, 1);
        Check.told(x, x.verdict(31), 0, 1);
        for (int odd : new int[] {MIN, -1, 0, 32, 33, 1 << 30, MAX}) {
            Check.none(x, x.verdict(odd), 1);
        }
        CatWitness y = new CatWitness();
        Check.none(y, y.verdict(0), 1);
        Check.none(y, y.verdict(1), 1);
    }

    /** "SWORN for k (1 to 6): the set of k READERS by which it is the likeliest to be right, of several the least as a number"; "(1; 6: there are not so many)". */
    static void boundSwornOf1To6() {
        String six = "";
        for (char c = 'a'; c <= 'f'; c++) {
            CatWitness x = Check.with(six);
            int count = c - 'a';
            for (int k = 1; k <= 6; k++) {
                if (k <= count) {
                    // All are alike: the first k.
                    Check.gave(x, x.sworn(k), (1 << k) - 1);
                } else {
                    Check.none(x, x.sworn(k), 6);
                }
            }
            for (int odd : new int[] {MIN, -1, 0, 7, MAX}) {
                Check.none(x, x.sworn(odd), 1);
            }
            six += "reader " + c + " slips 16 votes 9;";
        }
        CatWitness x = Check.with(six);
        Check.gave(x, x.sworn(6), 63);
        // All slip for sure: each set is right with 0, and the first is the least.
        Check.gave(x, x.sworn(3), 7);
        x.strain(5, 15);
        Check.gave(x, x.sworn(1), 32);
        x.strain(4, 15);
        Check.gave(x, x.sworn(1), 16);
        Check.gave(x, x.sworn(2), 48);
    }

    /** "POWER ... of all orders of all READERS the part in which he is the one by whom VOTES from the first on come to more than half of all". */
    static void boundPowerOfMoreThanHalf() {
        CatWitness x = Check.with("reader a slips 1 votes 9;");
        Check.told(x, x.power(0), 1, 1);
        // Half is not more.
        x = Check.with("reader a slips 1 votes 2; reader b slips 1 votes 1; reader c slips 1 votes 1;");
        Check.told(x, x.power(0), 2, 3);
        Check.told(x, x.power(1), 1, 6);
        x = Check.with("reader a slips 1 votes 3; reader b slips 1 votes 1; reader c slips 1 votes 1;");
        Check.told(x, x.power(0), 1, 1);
        Check.told(x, x.power(2), 0, 1);
        String six = "";
        for (char c = 'a'; c <= 'f'; c++) {
            six += "reader " + c + " slips 16 votes 9;";
            x = Check.with(six);
            for (int r = 0; r <= c - 'a'; r++) {
                Check.told(x, x.power(r), 1, c - 'a' + 1);
            }
            Check.none(x, x.power(c - 'a' + 1), 1);
        }
        for (int odd : new int[] {MIN, -1, 6, 32, MAX}) {
            Check.none(x, x.power(odd), 1);
        }
    }

    // ---- WORDS.

    /** "CLASH of a WORD: if what is SHOWN now before its PERSON means the other thing": nothing, or none, is no other thing. */
    static void boundClashOfTheOtherThing() {
        String court = "sign c means clean; sign g means guilty; sign n means nothing; rule c fed = 1; rule g fed = 2; rule n fed = 3;"
            + " person p fed 1; person q fed 2; person r fed 3; person s;";
        String words = "";
        for (String name : "p q r s".split(" ")) {
            words += "word " + name + " clean; word " + name + " guilty;";
        }
        CatWitness x = Check.with(court + words);
        Check.gave(x, x.clash(), 2 + 4);
        // Of nothing SHOWN either may stand, but not both.
        Check.gave(x, x.struck(), 4);
        Check.gave(x, x.struckSet(), 2 + 4 + 16 + 64);
        x = Check.with(court);
        Check.gave(x, x.clash(), 0);
        Check.gave(x, x.struck(), 0);
        Check.gave(x, x.struckSet(), 0);
        // All ten clash.
        x = Check.with(court + "word p guilty;".repeat(10));
        Check.gave(x, x.clash(), 1023);
        Check.gave(x, x.struck(), 10);
        Check.gave(x, x.struckSet(), 1023);
        x = Check.with(court + "word q guilty;".repeat(10));
        Check.gave(x, x.clash(), 0);
        Check.gave(x, x.struck(), 0);
    }

    /** "STRUCK: the fewest WORDS that must go, so that no WORD clashes, and no two of one PERSON are unlike; of several sets the least as a number". */
    static void boundStruckOfSeveralSets() {
        String court = "sign c means clean; sign g means guilty; rule c fed = 1; rule g fed = 2; person p fed 1; person q fed 2; person s;";
        String clean = "word # clean;";
        String guilty = "word # guilty;";
        for (String name : "p q s".split(" ")) {
            String c = clean.replace("#", name);
            String g = guilty.replace("#", name);
            boolean p = name.equals("p");
            boolean q = name.equals("q");
            // More of the one, more of the other, as many: only of s they may choose.
            CatWitness x = Check.with(court + c + g + g);
            Check.gave(x, x.struck(), p ? 2 : 1);
            Check.gave(x, x.struckSet(), p ? 6 : 1);
            x = Check.with(court + g + c + c);
            Check.gave(x, x.struck(), q ? 2 : 1);
            Check.gave(x, x.struckSet(), q ? 6 : 1);
            x = Check.with(court + g + c + c + g);
            Check.gave(x, x.struck(), 2);
            Check.gave(x, x.struckSet(), p ? 9 : 6);
            x = Check.with(court + c + g + g + c);
            Check.gave(x, x.struckSet(), q ? 9 : 6);
            x = Check.with(court + g + c);
            Check.gave(x, x.struck(), 1);
            Check.gave(x, x.struckSet(), q ? 2 : 1);
            x = Check.with(court + c + g);
            Check.gave(x, x.struckSet(), p ? 2 : 1);
            // The fewest, be the set of more the lesser number.
            x = Check.with(court + c + c + g);
            Check.gave(x, x.struck(), q ? 2 : 1);
            Check.gave(x, x.struckSet(), q ? 3 : 4);
            x = Check.with(court + g + g + c);
            Check.gave(x, x.struck(), p ? 2 : 1);
            Check.gave(x, x.struckSet(), p ? 3 : 4);
        }
    }

    // ---- ORDER.

    /** "of all orders in which those who WAIT could be sat before in one TERM"; promise 54: "from 0 on (1: k below 0, too; 6: no such)". */
    static void boundOrderOf0To6() {
        String people = "";
        for (char c = 'a'; c <= 'g'; c++) {
            int count = c - 'a';
            CatWitness x = Check.with("sign yes means clean; rule yes warm < 3;" + people);
            Check.gave(x, x.best(), Math.min(3, count));
            for (int k = 0; k < count; k++) {
                Check.gave(x, x.bestAt(k), k);
            }
            for (int odd : new int[] {count, 6, 32, MAX}) {
                Check.none(x, x.bestAt(odd), 6);
            }
            for (int odd : new int[] {-1, MIN}) {
                Check.none(x, x.bestAt(odd), 1);
            }
            people += "person " + c + ";";
        }
        // Nobody WAITS.
        CatWitness x = Check.with("sign yes means clean; rule yes; person p; person q;");
        x.term();
        Check.gave(x, x.best(), 0);
        Check.none(x, x.bestAt(0), 6);
        x.appeal(1);
        Check.gave(x, x.best(), 1);
        Check.gave(x, x.bestAt(0), 1);
        Check.none(x, x.bestAt(1), 6);
    }

    /** "that by which the most are FREE; of several the first by numbers": WARM is 9 at most there, too. */
    static void boundOrderOfSeveral() {
        // Each is FREE at one WARM alone: the reverse order is the only one.
        String court = "sign yes means clean; ";
        for (int i = 0; i < 6; i++) {
            court += "rule yes fed = " + i + " warm = " + (5 - i) + ";";
        }
        for (int i = 0; i < 6; i++) {
            court += "person p" + (char) ('a' + i) + " fed " + i + ";";
        }
        CatWitness x = Check.with(court);
        Check.gave(x, x.best(), 6);
        for (int k = 0; k < 6; k++) {
            Check.gave(x, x.bestAt(k), 5 - k);
        }
        x.sit(0);
        // From WARM 1 on the one with fed 5 comes too late, and stands where he is in nobody's way: last.
        Check.gave(x, x.best(), 5);
        int[] due = {4, 3, 2, 1, 0, 5};
        for (int k = 0; k < 6; k++) {
            Check.gave(x, x.bestAt(k), due[k]);
        }
        // At WARM 9 all that are left are FREE, be they first or last.
        CatWitness y = Check.with("sign yes means clean; rule yes guilty warm = 9; rule yes clean warm = 8; person p guilty; person q; person r guilty; person s;");
        for (int i = 0; i < 8; i++) {
            y.sit(0);
        }
        Check.gave(y, y.best(), 3);
        int[] then = {1, 0, 2, 3};
        for (int k = 0; k < 4; k++) {
            Check.gave(y, y.bestAt(k), then[k]);
        }
        y.sit(0);
        Check.gave(y, y.best(), 2);
        for (int k = 0; k < 4; k++) {
            Check.gave(y, y.bestAt(k), k);
        }
    }

    // ---- GAME.

    /** "GAME of n turns (0 to 3)"; promise 55: "STATUS tells NONE from -1 (1)"; promise 56: "(1: turns 0, too; 6: nothing)". */
    static void boundGameOf0To3Turns() {
        CatWitness x = Check.with("smell s; sign no means guilty; rule no; person p;");
        for (int turns = 0; turns <= 3; turns++) {
            Check.gave(x, x.game(turns), -1);
        }
        for (int turns = 1; turns <= 3; turns++) {
            Check.gave(x, x.moveOf(turns, 0), 0);
            Check.gave(x, x.moveOf(turns, 1), 0);
        }
        for (int odd : new int[] {MIN, -1, 4, MAX}) {
            Check.none(x, x.game(odd), 1);
            Check.none(x, x.moveOf(odd, 0), 1);
            Check.none(x, x.moveOf(odd, 1), 1);
        }
        Check.none(x, x.moveOf(0, 0), 1);
        Check.none(x, x.moveOf(0, 1), 1);
        for (int odd : new int[] {MIN, -1, 2, MAX}) {
            Check.none(x, x.moveOf(1, odd), 1);
        }
        // The least and the most: all six.
        String six = "person a; person b; person c; person d; person e; person f;";
        x = Check.with("sign no means guilty; rule no;" + six);
        Check.gave(x, x.game(0), -6);
        Check.gave(x, x.game(3), -6);
        for (int turns = 1; turns <= 3; turns++) {
            Check.gave(x, x.moveOf(turns, 0), 0);
            Check.gave(x, x.moveOf(turns, 1), 0);
        }
        x.reread(0, 2);
        Check.gave(x, x.game(0), 6);
        Check.gave(x, x.game(3), 6);
        x.reread(0, 0);
        Check.gave(x, x.game(3), 0);
        Check.none(x, x.game(4), 1);
    }

    /** "by turns, the defence first, one FEEDS a PERSON by 1": by turns of 1, 2, 3. */
    static void boundGameByTurns() {
        // By two FEEDINGS he is FREE, by three HELD.
        CatWitness x = Check.with("sign yes means clean; sign no means guilty; rule yes fed = 2; rule no fed = 3; person p fed 1;");
        int[] due = {0, 1, 0, 1};
        for (int turns = 0; turns <= 3; turns++) {
            Check.gave(x, x.game(turns), due[turns]);
        }
        Check.gave(x, x.moveOf(1, 1), 0);
        Check.none(x, x.moveOf(2, 0), 6);
        Check.none(x, x.moveOf(3, 0), 6);
        // Once he is FREE, the other one feeds him on; then the defence, too.
        CatWitness y = Check.with("sign yes means clean; sign no means guilty; rule yes fed = 2; rule no fed = 3; person p fed 2;");
        int[] then = {1, 1, -1, 0};
        for (int turns = 0; turns <= 3; turns++) {
            Check.gave(y, y.game(turns), then[turns]);
        }
        // The last turn of three is the defence's again.
        CatWitness z = Check.with("smell s; sign yes means clean; sign no means guilty; rule yes smells s; rule no; person p;");
        int[] each = {-1, 1, -1, 1};
        for (int turns = 0; turns <= 3; turns++) {
            Check.gave(z, z.game(turns), each[turns]);
        }
    }

    /** "RUBBED with a SMELL that he has not, or WASHED of one that he has, or does nothing"; "by PERSON, then FEEDING (0), then SMELLS (1 and their number); nothing comes last". */
    static void boundFirstMove() {
        String smells = "smell a; smell b; smell d; smell e; smell f; sign yes means clean; sign no means guilty;";
        for (int smell = 0; smell < 5; smell++) {
            String name = "a b d e f".split(" ")[smell];
            CatWitness x = Check.with(smells + "rule yes fed = 1 smells " + name + "; rule no fed = 1; person p; person q; person r fed 1;");
            Check.gave(x, x.game(1), 1);
            Check.gave(x, x.moveOf(1, 0), 2);
            Check.gave(x, x.moveOf(1, 1), 1 + smell);
            x = Check.with(smells + "rule no fed = 1 smells " + name + "; rule yes fed = 1; person p; person q fed 1 smells " + name + "; person r;");
            Check.gave(x, x.moveOf(1, 0), 1);
            Check.gave(x, x.moveOf(1, 1), 1 + smell);
        }
        // Each of all that can be done to one of six: only that is of use.
        for (int person = 0; person < 6; person++) {
            for (int deed = 0; deed <= 5; deed++) {
                String with = deed == 0 ? "fed = 8" : "fed = 7 smells " + "a b d e f".split(" ")[deed - 1];
                String people = "";
                for (int p = 0; p < 6; p++) {
                    people += "person p" + (char) ('a' + p) + (p == person ? " fed 7;" : ";");
                }
                CatWitness x = Check.with(smells + "rule yes " + with + ";" + people);
                Check.gave(x, x.game(1), 1);
                Check.gave(x, x.moveOf(1, 0), person);
                Check.gave(x, x.moveOf(1, 1), deed);
            }
        }
        // All are as good: the first, a FEEDING of the first; by FED 99 it can't be, then a SMELL is the first.
        CatWitness x = Check.with("smell s; person p; person q;");
        Check.gave(x, x.moveOf(3, 0), 0);
        Check.gave(x, x.moveOf(3, 1), 0);
        x.meal(0, 99);
        Check.gave(x, x.moveOf(2, 0), 0);
        Check.gave(x, x.moveOf(2, 1), 1);
        x = Check.with("person p fed 99; person q;");
        Check.gave(x, x.moveOf(1, 0), 1);
        Check.gave(x, x.moveOf(1, 1), 0);
        x = Check.with("person p fed 99; person q fed 98;");
        Check.gave(x, x.moveOf(3, 0), 1);
        x.meal(1, 1);
        Check.none(x, x.moveOf(3, 0), 6);
        Check.none(x, x.moveOf(1, 1), 6);
        // Nothing comes last: only if all else is worse.
        x = Check.with("smell s; sign yes means clean; rule yes fed = 0 smells s; person p smells s;");
        Check.none(x, x.moveOf(1, 0), 6);
        Check.gave(x, x.game(1), 1);
    }

    /** "how many have a CUE SHOWN before them then that means clean, less how many that means guilty, by best play": from -6 to 6. */
    static void boundGamesFromMinus6To6() {
        String signs = "sign c means clean; sign d means guilty; sign e means nothing; ";
        // A SMELL turns what is SHOWN.
        for (int smelling = 0; smelling <= 6; smelling++) {
            String people = "";
            for (int p = 0; p < 6; p++) {
                people += "person " + "abfghi".charAt(p) + (p < smelling ? " smells s;" : ";");
            }
            CatWitness x = Check.with("smell s;" + signs + "rule c smells s; rule d; " + people);
            int value = 2 * smelling - 6;
            int up = Math.min(6, value + 2);
            games(x, value, up, up - 2, up);
            x = Check.with("smell s;" + signs + "rule d smells s; rule c; " + people);
            up = Math.min(6, 2 - value);
            games(x, -value, up, up - 2, up);
            // A FEEDING alone turns it, and never back.
            x = Check.with(signs + "rule c fed = 0; rule e fed = 1; rule d; person a; person b; person f; person g; person h; person i;");
            for (int p = 0; p < smelling; p++) {
                x.meal(p, 1);
            }
            value = 6 - smelling;
            games(x, value, value, value - 1, value - 1);
            Check.none(x, x.moveOf(1, 0), 6);
        }
    }

    private static void games(CatWitness x, int... due) {
        for (int turns = 0; turns < due.length; turns++) {
            Check.gave(x, x.game(turns), due[turns]);
        }
    }

    /** "GAME" of all six with all five SMELLS ends, too, and changes nothing. */
    static void boundGameOfAll() {
        String court = "smell a; smell b; smell d; smell e; smell f; sign yes means clean; sign no means guilty;"
            + " rule yes fed = 3 smells a; rule no fed > 2 smells b; rule yes smells d; rule no smells e; rule yes fed = 2; rule no guilty warm < 5;";
        for (int i = 0; i < 6; i++) {
            court += "person p" + (char) ('a' + i) + (i % 2 == 0 ? " guilty" : "") + " fed " + i % 4 + (i % 3 == 0 ? " smells a e" : "") + ";";
        }
        CatWitness x = Check.with(court);
        for (int turns = 3; turns >= 0; turns--) {
            long value = x.game(turns);
            Check.is(x.status(), 0);
            Check.is(value >= -6 && value <= 6, true);
        }
        for (int p = 0; p < 6; p++) {
            Check.gave(x, x.person(p, 0), p % 4);
            Check.gave(x, x.person(p, 1), p % 3 == 0 ? 9 : 0);
        }
        // By one move the value is at most two better, by one of the other at most two worse.
        long start = x.game(0);
        Check.is(x.game(1) - start <= 2 && x.game(1) >= start, true);
        Check.is(x.game(2) <= x.game(1), true);
    }

    /** Promise 57: "FED of all PEOPLE comes to a TRAY, one by one: how many PEOPLE (1; 2; 3)". */
    static void boundCopyFedToAShortTray() {
        CatWitness x = Check.with("person a fed 1; person b fed 99; person c fed 0; person d fed 4; person e fed 5; person f fed 6;");
        for (int sort = 0; sort < 4; sort++) {
            for (int many = 0; many <= 7; many++) {
                x.tray(sort, sort, many);
                x.write(sort, 2, 77);
                x.write(sort, 6, 77);
                if (many < 6) {
                    Check.none(x, x.copyFed(sort), 3);
                    if (many > 2) {
                        Check.gave(x, x.read(sort, 0), 0);
                        Check.gave(x, x.read(sort, 2), 77);
                    }
                } else {
                    Check.gave(x, x.copyFed(sort), 6);
                    int[] due = {1, 99, 0, 4, 5, 6};
                    for (int p = 0; p < 6; p++) {
                        Check.gave(x, x.read(sort, p), due[p]);
                    }
                }
            }
            Check.gave(x, x.read(sort, 6), 77);
        }
        CatWitness y = Check.with("person a fed 7;");
        y.tray(0, 0, 1);
        Check.gave(y, y.copyFed(0), 1);
        Check.none(y, y.copyFed(1), 2);
        for (int odd : new int[] {MIN, -1, 4, MAX}) {
            Check.none(y, y.copyFed(odd), 1);
        }
    }

    // ---- WEEKS that are lived.

    /** "LIVED by a seed (0 to 9,999)"; promise 58: "(1; 6: no WEEKS)": WEEKS of no STEP are WEEKS. */
    static void boundSeedsOf0To9999() {
        CatWitness x = Check.with("person p;");
        for (int seed : new int[] {0, 9999}) {
            Check.none(x, x.live(seed), 6);
            Check.none(x, x.mean(seed, 1), 6);
        }
        for (int round = 0; round < 2; round++) {
            for (int odd : new int[] {MIN, -1, 10000, 1 << 16, MAX}) {
                Check.none(x, x.live(odd), 1);
                Check.none(x, x.mean(odd, 1), 1);
            }
            Check.gave(x, x.weeks(0), 0);
        }
        Check.gave(x, x.live(0), 0);
        Check.gave(x, x.live(9999), 0);
        Check.told(x, x.mean(9999, 1), 0, 1);
        Check.court(x, "person p;");
        Check.none(x, x.live(0), 6);
    }

    /** "s becomes what is left of s times 3,181 and 11,399 by 65,536; the draw by n is the rest of s by 8, rounded down, by n"; "any by 0 (both draws made)". */
    static void boundDraws() {
        for (int count = 1; count <= 6; count++) {
            String people = "";
            for (int i = 0; i < count; i++) {
                people += "person p" + (char) ('a' + i) + " fed " + (i == 1 ? 95 : 0) + ";";
            }
            for (int seed : new int[] {0, 1, 2, 17, 20, 21, 4096, 8191, 9998, 9999}) {
                CatWitness x = Check.with(people);
                Check.weeks(x, "loop 20; any; end;");
                int[] fed = new int[count];
                if (count > 1) {
                    fed[1] = 95;
                }
                long s = seed;
                int missed = 0;
                for (int i = 0; i < 20; i++) {
                    s = (s * 3181 + 11399) % 65536;
                    int who = (int) (s / 8 % count);
                    s = (s * 3181 + 11399) % 65536;
                    int often = (int) (s / 8 % 4);
                    missed += often == 0 || fed[who] == 99 ? 1 : 0;
                    fed[who] = Math.min(99, fed[who] + often);
                }
                Check.gave(x, x.live(seed), 21);
                Check.gave(x, x.lived(0), missed);
                for (int p = 0; p < count; p++) {
                    Check.gave(x, x.person(p, 0), fed[p]);
                }
            }
        }
    }

    /** "What can't be is MISSED": it is a STEP come to, and changes nothing. */
    static void boundMissed() {
        String court = "smell s; sign c means clean; rule c; person p; person q smells s; person r fed 99;";
        String[] steps = {"rub q s;", "wash p s;", "night;", "feed r 1;", "feed r 9;"};
        for (String step : steps) {
            CatWitness x = Check.with(court);
            Check.weeks(x, step + step);
            Check.gave(x, x.live(0), 2);
            lived(x, 2, 0, 0, 0, 0);
            Check.gave(x, x.told(6), 0);
            Check.gave(x, x.person(0, 1), 0);
            Check.gave(x, x.person(1, 1), 1);
            Check.gave(x, x.person(2, 0), 99);
        }
        String[] done = {"rub p s;", "wash q s;", "sit p;", "feed p 1;", "feed q 9;", "when held p; end;", "loop 3; end;", "stop;"};
        for (String step : done) {
            CatWitness x = Check.with(court);
            Check.weeks(x, step);
            Check.gave(x, x.live(0), 1);
            Check.gave(x, x.lived(0), 0);
        }
        // A night of WARM 1 is none; a feed of who has FED 98 is none, and makes it 99.
        CatWitness x = Check.with("person p fed 98;");
        Check.weeks(x, "sit p; night; night; feed p 9; feed p 1;");
        Check.gave(x, x.live(0), 5);
        lived(x, 2, 1, 0, 0, 0);
        Check.gave(x, x.person(0, 0), 99);
    }

    /** "feed NAME NUMBER ; or rub NAME NAME ; or wash NAME NAME": of that PERSON, that SMELL alone, whichever STEP it is. */
    static void boundStepsOfEachPerson() {
        String court = "smell a; smell b; smell d; smell e; smell f; person u; person v; person w; person x; person y; person z;";
        String[] people = "u v w x y z".split(" ");
        String[] smells = "a b d e f".split(" ");
        for (int p = 0; p < people.length; p++) {
            for (int s = 0; s < smells.length; s++) {
                CatWitness x = Check.with(court);
                String both = people[p] + " " + smells[s] + ";";
                Check.weeks(x, "feed " + people[p] + " " + (s + 1) + "; sit " + people[p] + "; rub " + both);
                Check.gave(x, x.live(0), 3);
                lived(x, 0, 1, 0, 0, 0);
                for (int q = 0; q < people.length; q++) {
                    Check.gave(x, x.person(q, 0), q == p ? s + 1 : 0);
                    Check.gave(x, x.person(q, 1), q == p ? 1 << s : 0);
                    Check.gave(x, x.person(q, 4), q == p ? 1 : 0);
                    for (int t = 0; t < smells.length; t++) {
                        x.scent(q, t, true);
                    }
                }
                Check.weeks(x, "night; night; wash " + both);
                Check.gave(x, x.live(0), 3);
                lived(x, 1, 0, 0, 0, 0);
                for (int q = 0; q < people.length; q++) {
                    Check.gave(x, x.person(q, 1), q == p ? 31 - (1 << s) : 31);
                }
            }
        }
    }

    /** "a TERM in which nobody WAITS". */
    static void boundMissedTermOfNobody() {
        CatWitness x = Check.with("sign c means clean; sign d means guilty; rule d guilty; rule c; person p; person q guilty;");
        Check.weeks(x, "term; term; night; term;");
        Check.gave(x, x.live(0), 4);
        lived(x, 2, 2, 1, 1, 0);
        Check.gave(x, x.told(6), 0);
        Check.gave(x, x.live(0), 4);
        lived(x, 4, 0, 0, 0, 0);
        x.appeal(1);
        Check.gave(x, x.live(0), 4);
        lived(x, 2, 1, 0, 1, 0);
        CatWitness y = new CatWitness();
        Check.weeks(y, "term;");
        Check.gave(y, y.live(0), 1);
        lived(y, 1, 0, 0, 0, 0);
    }

    /** "a SITTING above 9,999 (a TERM as a whole)". */
    static void boundMissedAbove9999() {
        CatWitness x = Check.worn("sign c means clean; rule c warm = 0; person p; person q;", "p", 9997);
        Check.weeks(x, "sit q; term; sit q; sit q; term;");
        x.mark();
        Check.gave(x, x.live(0), 5);
        // The TERM of two, the third SITTING, the last TERM.
        lived(x, 3, 2, 0, 0, 0);
        Check.gave(x, x.told(7), 9999);
        Check.gave(x, x.told(8), 3);
        Check.gave(x, x.person(0, 4), 9997);
        Check.gave(x, x.person(1, 4), 2);
        x.undo();
        Check.weeks(x, "term; term; sit p;");
        Check.gave(x, x.live(0), 3);
        lived(x, 2, 2, 1, 0, 0);
        Check.gave(x, x.told(7), 9999);
    }

    /** "any by 0 (both draws made), without PEOPLE (none)": by FED 99, too. */
    static void boundMissedAny() {
        CatWitness x = new CatWitness();
        Check.weeks(x, "any; any;");
        Check.gave(x, x.live(3), 2);
        lived(x, 2, 0, 0, 0, 0);
        x = Check.with("person p fed 99;");
        Check.weeks(x, "loop 50; any; end;");
        Check.gave(x, x.live(3), 51);
        lived(x, 50, 0, 0, 0, 0);
        Check.gave(x, x.person(0, 0), 99);
    }

    /** "loop n (1 to 99): as often." */
    static void boundLoopAsOften() {
        for (int n : new int[] {1, 2, 9, 98, 99}) {
            CatWitness x = Check.with("person p;");
            Check.weeks(x, "loop " + n + "; feed p 1; end; sit p;");
            Check.gave(x, x.live(0), n + 2);
            Check.gave(x, x.person(0, 0), n);
            Check.gave(x, x.person(0, 4), 1);
            lived(x, 0, 1, 0, 0, 0);
        }
        // Within others: each as often as it is come to; an end is no STEP.
        CatWitness x = Check.with("person p; person q;");
        Check.weeks(x, "loop 2; feed q 1; loop 3; loop 4; feed p 1; end; end; end;");
        Check.gave(x, x.live(0), 1 + 2 * (1 + 1 + 3 * (1 + 4)));
        Check.gave(x, x.person(0, 0), 24);
        Check.gave(x, x.person(1, 0), 2);
        Check.weeks(x, "loop 99; end; loop 1; loop 1; loop 1; end; end; end;");
        Check.gave(x, x.live(0), 4);
    }

    /** "At most 300 STEPS (when, loop count as one each time they are come to from ahead; end does not)"; promise 59: "1 if a STEP was left to be done (by the 300 alone, not by stop), else 0". */
    static void bound300Steps() {
        // 298 STEPS, and what stands behind them.
        String tests = "loop 99; when free p; end; when warm = 0; end; feed p 1; end;";
        String ahead = "loop 99; feed p 1; when warm = 0; feed q 1; end; end;";
        check300(ahead, "", 298, 0);
        check300(ahead, "night;", 299, 0);
        check300(ahead, "night; night;", 300, 0);
        check300(ahead, "night; night; night;", 300, 1);
        check300(ahead, "night; stop;", 300, 0);
        check300(ahead, "night; stop; night;", 300, 0);
        check300(ahead, "night; night; stop;", 300, 1);
        check300(ahead, "night; loop 99; end;", 300, 0);
        check300(ahead, "night; when held p; night; end;", 300, 0);
        check300(ahead, "night; when warm = 0; night; end;", 300, 1);
        check300(ahead, "night; when warm = 0; end; night;", 300, 1);
        check300(ahead, "loop 1; night; end;", 300, 0);
        check300(ahead, "loop 2; night; end;", 300, 1);
        check300(ahead, "loop 9; loop 9; loop 9; end; end; end;", 300, 1);
        check300(ahead, "loop 1; loop 99; end; end;", 300, 0);
        check300(ahead, "stop; night; night; night;", 299, 0);
        check300(tests, "night; night;", 300, 0);
        check300(tests, "night; night; night;", 300, 1);
        // What is left is not done.
        CatWitness x = Check.with("person p;");
        Check.weeks(x, "loop 99; loop 2; sit p; end; end; night; feed p 1; feed p 1;");
        Check.gave(x, x.live(0), 300);
        Check.gave(x, x.person(0, 0), 1);
        lived(x, 0, 198, 0, 0, 1);
        // Nor is it by loops within loops: of 300 STEPS 5 are loops, of 295 FEEDINGS 98 make FED 99.
        Check.weeks(x, "loop 99; loop 99; loop 99; feed p 1; end; end; end;");
        Check.gave(x, x.live(0), 300);
        lived(x, 295 - 98, 0, 0, 0, 1);
        Check.gave(x, x.person(0, 0), 99);
    }

    private static void check300(String ahead, String behind, int steps, int left) {
        CatWitness x = Check.with("person p; person q;");
        Check.gave(x, Check.weeks(x, ahead + behind) > 0);
        Check.gave(x, x.live(0), steps);
        Check.gave(x, x.lived(4), left);
    }

    /** "TEST: shows NAME NAME, or held NAME, or free NAME, or warm COMPARES NUMBER": each so and not so. */
    static void boundTests() {
        String court = "sign c means clean; sign d means guilty; rule d guilty; rule c fed = 1; person p fed 1; person q guilty; person r;";
        String[] tests = {"shows p c", "shows p d", "shows q d", "shows q c", "shows r c", "shows r d", "held p", "held q", "held r", "free p", "free q", "free r"};
        boolean[] ahead = {true, false, true, false, false, false, false, false, false, false, false, false};
        boolean[] behind = {true, false, true, false, false, false, false, true, false, true, false, false};
        for (int i = 0; i < tests.length; i++) {
            CatWitness x = Check.with(court);
            Check.weeks(x, "when " + tests[i] + "; stop; end; night;");
            Check.gave(x, x.live(0), 2);
            Check.gave(x, x.lived(0), ahead[i] ? 0 : 1);
            x.term();
            x.live(0);
            Check.gave(x, x.told(6), behind[i] ? 3 : 0);
        }
        // What would be SHOWN at the WARM that it is then, of the FED, SMELLS and guilt that he has then.
        for (int warm = 0; warm <= 9; warm++) {
            CatWitness x = Check.with("sign c means clean; sign d means clean; rule c warm = " + warm + "; rule d warm > " + warm + "; person p; person q;");
            Check.weeks(x, "loop 12; when shows q c; feed p 1; end; when shows q d; feed q 1; end; sit p; end;");
            x.live(0);
            Check.gave(x, x.person(0, 0), warm == 9 ? 3 : 1);
            Check.gave(x, x.person(1, 0), 11 - warm - (warm == 9 ? 2 : 0));
        }
        CatWitness y = Check.with("smell s; smell t; sign c means clean; rule c guilty fed > 2 smells t; person p guilty smells s;");
        Check.weeks(y, "loop 5; feed p 1; when shows p c; sit p; end; end; rub p t; when shows p c; sit p; end; wash p t; when shows p c; sit p; end; rub p t;");
        y.live(0);
        Check.gave(y, y.person(0, 4), 1);
        y.blame(0, false);
        Check.weeks(y, "when shows p c; sit p; end;");
        Check.gave(y, y.live(0), 1);
        String[] compares = {"<", "=", ">"};
        for (int k = 0; k < 3; k++) {
            for (int number = 0; number <= 9; number++) {
                CatWitness x = Check.with("person p;");
                Check.weeks(x, "when warm " + compares[k] + " " + number + "; feed p 1; end;");
                int fed = 0;
                for (int warm = 0; warm <= 9; warm++) {
                    boolean is = k == 0 ? warm < number : k == 1 ? warm == number : warm > number;
                    fed += is ? 1 : 0;
                    Check.gave(x, x.live(0), is ? 2 : 1);
                    Check.gave(x, x.person(0, 0), fed);
                    x.sit(0);
                }
            }
        }
    }

    /** Promise 59: "Of live() latest with STATUS 0 (whatever came behind it) ... (1; 6: there was none)". */
    static void boundLivedOfTheLatest() {
        CatWitness x = Check.with("sign c means clean; rule c warm = 1; person p; person q; person r;");
        for (int what = 0; what < 5; what++) {
            Check.none(x, x.lived(what), 6);
        }
        Check.none(x, x.live(0), 6);
        Check.weeks(x, "night; term; sit r;");
        Check.none(x, x.live(-1), 1);
        Check.gave(x, x.mean(0, 20));
        Check.none(x, x.lived(0), 6);
        Check.gave(x, x.live(0), 3);
        lived(x, 1, 4, 1, 0, 0);
        // Whatever: a life that is refused, a mean, a COURT, WEEKS, a MARK.
        Check.none(x, x.live(10000), 1);
        Check.weeks(x, "night; night; night; night;");
        Check.gave(x, x.mean(5, 3));
        x.term();
        x.mark();
        Check.court(x, "person a;");
        Check.none(x, x.live(0), 6);
        Check.none(x, Check.weeks(x, "zz"), 9);
        x.undo();
        lived(x, 1, 4, 1, 0, 0);
        Check.gave(x, x.live(0), 4);
        lived(x, 3, 0, 0, 0, 0);
        for (int odd : new int[] {MIN, -1, 5, MAX}) {
            Check.none(x, x.lived(odd), 1);
        }
    }

    private static void lived(CatWitness x, int... due) {
        for (int what = 0; what < due.length; what++) {
            Check.gave(x, x.lived(what), due[what]);
        }
    }

    /** Promise 60: "by so many seeds (1 to 20) from one on (1: the last above 9,999, too; 6: no WEEKS); all stays as it is". */
    static void boundMeanOf1To20Seeds() {
        CatWitness x = Check.with("person p fed 3; person q fed 98; person r;");
        Check.weeks(x, "any; any; any;");
        int total = 0;
        for (int many = 1; many <= 20; many++) {
            CatWitness y = Check.with("person p fed 3; person q fed 98; person r;");
            Check.weeks(y, "any; any; any;");
            y.live(9979 + many);
            for (int p = 0; p < 3; p++) {
                total += y.person(p, 0);
            }
            Check.gave(x, x.mean(9980, many));
            Check.is(x.top() * many, total * x.bottom());
            int a = total;
            int b = many;
            while (b != 0) {
                int rest = a % b;
                a = b;
                b = rest;
            }
            Check.is(x.bottom(), many / a);
        }
        Check.none(x, x.mean(9981, 20), 1);
        Check.none(x, x.mean(9999, 2), 1);
        Check.gave(x, x.mean(9999, 1));
        Check.gave(x, x.mean(0, 20));
        for (int odd : new int[] {MIN, -1, 0, 21, MAX}) {
            Check.none(x, x.mean(0, odd), 1);
        }
        for (int odd : new int[] {MIN, -1, 10000, MAX}) {
            Check.none(x, x.mean(odd, 1), 1);
            Check.none(x, x.mean(odd, 20), 1);
        }
        Check.none(x, x.mean(MAX, MAX), 1);
        int[] due = {3, 98, 0};
        for (int p = 0; p < 3; p++) {
            Check.gave(x, x.person(p, 0), due[p]);
        }
        // By WEEKS as deep, and as long, as they can be.
        Check.weeks(x, "loop 2; loop 3; loop 4; feed p 1; end; end; end;");
        Check.told(x, x.mean(0, 20), 3 + 98 + 24, 1);
        Check.weeks(x, "loop 99; loop 2; night; end; end; feed r 9; feed r 9; feed r 9;");
        Check.told(x, x.mean(7, 3), 3 + 98 + 18, 1);
        // Without PEOPLE it is 0 by 1, by as many seeds as one likes.
        CatWitness z = new CatWitness();
        z.weeks(0);
        Check.told(z, z.mean(0, 20), 0, 1);
    }

    // ---- MARKS.

    /** "MARKS, at most 3"; promises 61, 62: "how many there are (4)", "how many there are left (6)". */
    static void boundMarksOf3() {
        CatWitness x = Check.with("person p;");
        Check.none(x, x.undo(), 6);
        for (int round = 0; round < 3; round++) {
            for (int i = 1; i <= 3; i++) {
                Check.gave(x, x.mark(), i);
                x.meal(0, 1);
            }
            Check.none(x, x.mark(), 4);
            Check.none(x, x.mark(), 4);
            Check.gave(x, x.person(0, 0), 3);
            for (int i = 2; i >= 0; i--) {
                Check.gave(x, x.undo(), i);
                Check.gave(x, x.person(0, 0), i);
            }
            Check.none(x, x.undo(), 6);
            Check.gave(x, x.person(0, 0), 0);
        }
    }

    /** "the COURT with all that became of it, the WEEKS are kept as they are; all is taken back to the latest MARK, which is gone then". */
    static void boundAllIsTakenBack() {
        String court = "smell s; smell t; sign c means clean; sign d means guilty; rule c guilty fed < 5 warm < 9 smells s; rule d clean; person p guilty smells s;"
            + " person q; reader r slips 3 votes 4; word q guilty; word p clean;";
        CatWitness x = Check.with(court);
        Check.weeks(x, "sit p; feed q 3;");
        x.term();
        x.mark();
        int[] asMarked = {2, 2, 2, 2, 1, 2, 2, 2, 0, 1, 2, 1, 4};
        // A COURT that has less, and more, of all.
        String[] others = {"", "smell a; smell b; smell e; sign f means guilty; sign g means guilty; sign h means nothing; rule f; rule g clean; rule h warm > 3;"
            + " person i fed 9; person j guilty fed 8 smells a b e; person k; reader l slips 9 votes 9; reader m slips 8 votes 8; word k clean; word k clean; word j guilty;"};
        for (String other : others) {
            Check.gave(x, Check.court(x, other), other.isEmpty() ? 0 : 3);
            Check.gave(x, Check.weeks(x, "night; night; night; loop 2; any; end;"), 5);
            x.live(7);
            x.sit(0);
            Check.gave(x, x.undo(), 0);
            for (int what = 0; what < asMarked.length; what++) {
                Check.gave(x, x.told(what), asMarked[what]);
            }
            int[][] people = {{0, 1, 1, 1, 1}, {0, 0, 2, 0, 1}};
            for (int p = 0; p < 2; p++) {
                for (int what = 0; what < 5; what++) {
                    Check.gave(x, x.person(p, what), people[p][what]);
                }
                Check.gave(x, x.word(p, 0), 1 - p);
                Check.gave(x, x.word(p, 1), 1 + p);
                Check.gave(x, x.sense(p), 2 - p);
                Check.gave(x, x.rule(p, 0), p);
                Check.gave(x, x.rule(p, 1), 1 + p);
            }
            Check.gave(x, x.rule(0, 2), 5);
            Check.gave(x, x.rule(0, 3), 9);
            Check.gave(x, x.rule(0, 4), 0);
            Check.none(x, x.rule(1, 2), 6);
            Check.gave(x, x.cueAt(0, 8), 0);
            Check.none(x, x.cueAt(0, 9), 6);
            Check.gave(x, x.reader(0, 0), 3);
            Check.gave(x, x.reader(0, 1), 4);
            x.mark();
            Check.gave(x, x.live(0), 2);
            Check.gave(x, x.person(1, 0), 3);
            // Its NAMES are there again, those of the other are not.
            Check.gave(x, Check.weeks(x, "rub q t; when shows p d; end;"), 2);
            Check.none(x, Check.weeks(x, "sit i;"), 9);
            x.undo();
            x.mark();
        }
        x.undo();
        Check.gave(x, x.live(0), 2);
        // No WEEKS, too, are kept.
        CatWitness y = Check.with("person p;");
        y.mark();
        Check.weeks(y, "any;");
        y.undo();
        Check.none(y, y.live(0), 6);
    }

    /** Paragraph 4: what is no part of it stays: TRAYS, the tape, the FRACTION, FAULTS, what was LIVED. */
    static void boundNotTakenBack() {
        CatWitness x = Check.with("person p; reader r slips 4 votes 1;");
        x.mark();
        x.tray(1, 0, 2);
        x.write(1, 1, 7);
        Check.weeks(x, "night; zz;");
        Check.weeks(x, "night;");
        x.live(0);
        x.verdict(1);
        x.feed(0, 0, 0, 0, 0);
        Check.gave(x, x.undo(), 0);
        Check.is(x.top(), 3);
        Check.is(x.bottom(), 4);
        Check.gave(x, x.read(1, 1), 7);
        Check.gave(x, x.lived(0), 1);
        Check.is(x.fault(0), 0);
        Check.is(x.feed(0, 0, 0, 0, 0), 40);
        Check.none(x, x.live(0), 6);
    }
}
