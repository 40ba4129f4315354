/** Promises 37 to 49: whose guilt it was, how to have a CUE SHOWN, RULES and CUES, READERS. */
public final class GuiltAndReaderTest {
    /** At WARM 0 and 1 all see it nod; at 2 and 3 guilt is told, at 4 and 5 only that one is clean. */
    private static final String COURT = "sign nod means nothing; sign hiss means guilty; sign purr means clean;"
        + " rule nod warm < 2; rule hiss guilty warm < 4; rule purr clean warm < 6;"
        + " person ann guilty; person bob; person cid fed 9;";

    public static void main(String[] args) {
        Check.promises(GuiltAndReaderTest.class, 37, 49);
    }

    /** A TRAY 0 with these numbers. */
    private static void threes(CatWitness x, int... numbers) {
        x.tray(0, 3, numbers.length);
        for (int i = 0; i < numbers.length; i++) {
            x.write(0, i, numbers[i]);
        }
    }

    static void promise37() {
        CatWitness x = Check.with(COURT);
        // ann hissed at; of bob nothing at WARM 5: guilty; cid at WARM 9: tells nothing; ann nodded at: nor that.
        threes(x, 0, 3, 1, 1, 5, 3, 2, 9, 3, 0, 1, 0, 2, 2, 2, 0, 2, 2);
        int[] due = {8, 4, 2, 2, 2, 1, 0};
        for (int n = 0; n < due.length; n++) {
            Check.gave(x, x.fits(0, n), due[n]);
        }
        Check.none(x, x.fits(0, 7), 3);
        // What can't be SHOWN of either fits in no way.
        threes(x, 0, 9, 1);
        Check.gave(x, x.fits(0, 1), 0);
        threes(x, 1, 0, 2, 0, 3, 1);
        Check.gave(x, x.fits(0, 2), 0);
        tray(x, 37);
        // Nobody: one way.
        CatWitness y = new CatWitness();
        y.tray(0, 0, 3);
        Check.gave(y, y.fits(0, 0), 1);
        Check.none(y, y.fits(0, 1), 5);
    }

    /** What promises 37 to 40 say of TRAYS alike. */
    private static void tray(CatWitness x, int promise) {
        status(x, promise, 4, 0, 1);
        status(x, promise, -1, 0, 1);
        status(x, promise, 0, -1, 1);
        status(x, promise, 0, 21, 1);
        status(x, promise, 1, 0, 2);
        status(x, promise, 1, 21, 1);
        int[][] bad = {{3, 0, 0}, {-1, 0, 0}, {0, 10, 0}, {0, -1, 0}, {0, 0, 4}, {0, 0, -1}};
        for (int[] three : bad) {
            threes(x, 0, 2, 1, three[0], three[1], three[2], 0, 0);
            status(x, promise, 0, 2, 5);
            status(x, promise, 0, 3, 3);
        }
        x.tray(0, 3, 60);
        x.write(0, 0, 1L << 32);
        status(x, promise, 0, 1, 5);
        x.write(0, 0, 0);
        x.write(0, 1, 1L << 33);
        status(x, promise, 0, 1, 5);
        x.write(0, 1, 0);
        x.write(0, 2, 1L << 34);
        status(x, promise, 0, 20, 5);
    }

    private static void status(CatWitness x, int promise, int tray, int n, int status) {
        switch (promise) {
            case 37: Check.none(x, x.fits(tray, n), status); break;
            case 38: Check.none(x, x.sure(0, tray, n), status); break;
            case 39: Check.none(x, x.odds(0, tray, n), status); break;
            default: Check.none(x, x.ask(tray, n, 0), status); break;
        }
    }

    static void promise38() {
        CatWitness x = Check.with(COURT);
        threes(x, 0, 3, 1, 1, 5, 2, 2, 9, 3, 0, 2, 2);
        Check.none(x, x.sure(0, 0, 0), 6);
        Check.gave(x, x.sure(0, 0, 1), 1);
        Check.none(x, x.sure(1, 0, 1), 6);
        Check.gave(x, x.sure(1, 0, 2), 0);
        Check.none(x, x.sure(2, 0, 3), 6);
        // No way at all.
        Check.none(x, x.sure(0, 0, 4), 6);
        Check.none(x, x.sure(1, 0, 4), 6);
        Check.none(x, x.sure(3, 0, 1), 1);
        Check.none(x, x.sure(-1, 0, 1), 1);
        Check.none(x, x.sure(3, 1, 0), 1);
        tray(x, 38);
    }

    static void promise39() {
        CatWitness x = Check.with(COURT);
        threes(x, 0, 3, 1, 1, 5, 2, 2, 9, 3, 0, 2, 2);
        Check.told(x, x.odds(0, 0, 0), 1, 2);
        Check.told(x, x.odds(0, 0, 1), 1, 1);
        Check.told(x, x.odds(1, 0, 1), 1, 2);
        Check.told(x, x.odds(1, 0, 2), 0, 1);
        Check.told(x, x.odds(2, 0, 3), 1, 2);
        Check.none(x, x.odds(2, 0, 4), 6);
        Check.is(x.top(), 1);
        Check.is(x.bottom(), 2);
        Check.none(x, x.odds(3, 0, 1), 1);
        Check.none(x, x.odds(-1, 0, 1), 1);
        tray(x, 39);
    }

    static void promise40() {
        CatWitness x = Check.with(COURT);
        threes(x, 0, 3, 1, 1, 5, 2, 2, 2, 1);
        int[][] due = {{0, 2}, {1, 2}, {2, 2}};
        for (int n = 0; n < 3; n++) {
            Check.gave(x, x.ask(0, n, 0), due[n][0]);
            Check.gave(x, x.ask(0, n, 1), due[n][1]);
        }
        Check.none(x, x.ask(0, 3, 0), 6);
        threes(x, 0, 3, 1, 0, 3, 2);
        Check.none(x, x.ask(0, 2, 0), 6);
        Check.none(x, x.ask(0, 1, 2), 1);
        Check.none(x, x.ask(0, 1, -1), 1);
        tray(x, 40);
        // No question parts them: the first.
        CatWitness y = Check.with("sign a means clean; rule a warm > 4; person p; person q;");
        y.tray(0, 0, 0);
        Check.gave(y, y.ask(0, 0, 0), 0);
        Check.gave(y, y.ask(0, 0, 1), 0);
        CatWitness z = new CatWitness();
        z.tray(0, 0, 0);
        Check.none(z, z.ask(0, 0, 0), 6);
        // Only at WARM 0, only at 9.
        Check.court(y, "sign a means clean; rule a guilty warm = 9; person p; person q;");
        Check.gave(y, y.ask(0, 0, 0), 0);
        Check.gave(y, y.ask(0, 0, 1), 9);
        Check.court(y, "sign a means clean; rule a clean fed = 1 warm = 0; person p; person q fed 1;");
        Check.gave(y, y.ask(0, 0, 0), 1);
        Check.gave(y, y.ask(0, 0, 1), 0);
        // FED, SMELLS as they are: only the last one's guilt tells.
        CatWitness w = Check.with("smell s; sign a means clean; sign b means clean; rule a guilty fed > 3 warm = 7 smells s; rule b;"
            + " person p fed 4; person q smells s; person r fed 4 smells s;");
        w.tray(0, 0, 0);
        Check.gave(w, w.ask(0, 0, 0), 2);
        Check.gave(w, w.ask(0, 0, 1), 7);
    }

    /** A deer shies when it smells of two of three, or is well fed. */
    private static final String LEAST = "smell a; smell b; smell c;"
        + " sign x means clean; sign y means guilty; sign z means nothing; sign never means clean;"
        + " rule z warm > 0; rule x guilty fed > 24; rule y smells c; rule x fed = 7; rule y clean smells b; rule x smells b;"
        + " rule x fed = 99; rule z fed = 20;"
        + " person p fed 6; person q guilty fed 4 smells c; person r fed 5 smells a; person t fed 90; person u smells a b c;";

    static void promise41() {
        CatWitness x = Check.with(LEAST);
        Check.gave(x, x.least(0, 0), 1);
        Check.gave(x, x.least(0, 1), 1);
        Check.gave(x, x.least(0, 2), 14);
        Check.none(x, x.least(0, 3), 6);
        // q: to wash c and to rub b, or wash c and feed 3; z: c washed, fed 20.
        Check.gave(x, x.least(1, 0), 2);
        Check.gave(x, x.least(1, 1), 0);
        Check.gave(x, x.least(1, 2), 17);
        Check.gave(x, x.least(2, 0), 2);
        Check.gave(x, x.least(3, 0), 9);
        Check.none(x, x.least(3, 2), 6);
        Check.gave(x, x.least(4, 1), 0);
        Check.gave(x, x.least(4, 2), 22);
        // WARM as it is.
        x.sit(0);
        Check.gave(x, x.least(0, 2), 0);
        Check.none(x, x.least(0, 0), 6);
        Check.none(x, x.least(5, 0), 1);
        Check.none(x, x.least(-1, 0), 1);
        Check.none(x, x.least(0, 4), 1);
        Check.none(x, x.least(0, -1), 1);
        // 20 FEEDINGS at the most.
        CatWitness y = Check.with("sign x means clean; rule x fed > 23; person p fed 4; person q fed 3;");
        Check.gave(y, y.least(0, 0), 20);
        Check.none(y, y.least(1, 0), 6);
        Check.gave(y, y.person(0, 0), 4);
        // FED 99 at the most.
        y = Check.with("sign x means clean; rule x fed > 99; person p fed 95; person q fed 99;");
        Check.none(y, y.least(0, 0), 6);
        Check.none(y, y.least(1, 0), 6);
    }

    static void promise42() {
        CatWitness x = Check.with(LEAST);
        int[][] due = {{0, 0, 1, 0}, {0, 1, 0, 2}, {0, 2, 14, 0}, {1, 0, 0, 2}, {1, 1, 0, 4}, {1, 2, 16, 0}, {2, 0, 2, 1}, {2, 1, 0, 3},
            {3, 0, 9, 0}, {4, 1, 0, 7}, {4, 2, 20, 1}};
        for (int[] row : due) {
            Check.gave(x, x.leastBy(row[0], row[1], 0), row[2]);
            Check.gave(x, x.leastBy(row[0], row[1], 1), row[3]);
        }
        Check.none(x, x.leastBy(0, 3, 0), 6);
        Check.none(x, x.leastBy(0, 3, 1), 6);
        Check.none(x, x.leastBy(0, 0, 2), 1);
        Check.none(x, x.leastBy(0, 0, -1), 1);
        Check.none(x, x.leastBy(5, 0, 0), 1);
        Check.none(x, x.leastBy(0, 4, 0), 1);
        // As many deeds: the fewest FEEDINGS, then the least set.
        CatWitness y = Check.with("smell a; smell b; smell c; sign x means clean; rule x fed = 1; rule x smells c; rule x smells b; person p;");
        Check.gave(y, y.least(0, 0), 1);
        Check.gave(y, y.leastBy(0, 0, 0), 0);
        Check.gave(y, y.leastBy(0, 0, 1), 2);
    }

    private static final String RULES = "smell a; sign g means guilty; sign c means clean; sign n means nothing;"
        + " rule g guilty warm < 3; rule c clean warm < 5 smells a; rule g warm = 9; rule c guilty warm < 2; rule n fed > 20;"
        + " rule n fed > 19 warm = 8;";

    static void promise43() {
        CatWitness x = Check.with(RULES);
        // Of 840 WORLDS.
        int[] due = {126, 105, 84, 0, 0, 4};
        for (int r = 0; r < due.length; r++) {
            Check.gave(x, x.reach(r), due[r]);
        }
        Check.none(x, x.reach(6), 1);
        Check.none(x, x.reach(-1), 1);
        CatWitness y = Check.with("smell a; smell b; smell d; smell e; smell f; sign c means clean; rule c smells f; rule c;");
        for (int i = 0; i < 3; i++) {
            Check.gave(y, y.reach(0), 6720);
            Check.gave(y, y.reach(1), 6720);
        }
        // Halves of what is left; one SMELL asked again is none anew.
        y = Check.with("smell a; smell b; smell d; sign c means clean; rule c smells a; rule c smells a; rule c guilty smells d;"
            + " rule c smells b; rule c smells d; rule c warm < 1; rule c fed < 1 smells d; rule c;");
        int[] halves = {1680, 0, 420, 630, 210, 42, 0, 378};
        for (int r = 0; r < halves.length; r++) {
            Check.gave(y, y.reach(r), halves[r]);
        }
        Check.gave(y, y.mute(), 0);
    }

    static void promise44() {
        CatWitness x = Check.with(RULES);
        Check.gave(x, x.idle(), 24);
        x.repeal(0);
        Check.gave(x, x.idle(), 8);
        CatWitness y = new CatWitness();
        Check.gave(y, y.idle(), 0);
        y = Check.with("sign c means clean; rule c fed > 20; rule c; rule c guilty;");
        Check.gave(y, y.idle(), 5);
    }

    static void promise45() {
        CatWitness x = Check.with(RULES);
        Check.told(x, x.tells(0), 4, 5);
        Check.told(x, x.tells(1), 0, 1);
        Check.told(x, x.tells(2), 1, 2);
        x.enact(1, 1, 0);
        // Guilty with a: 210, less the 63 and 21 of rule g and the one of rule n: 125; clean: the 105 as ahead.
        Check.told(x, x.tells(1), 25, 46);
        x.repeal(5);
        x.repeal(4);
        Check.none(x, x.tells(2), 6);
        Check.none(x, x.tells(3), 1);
        Check.none(x, x.tells(-1), 1);
        Check.is(x.bottom(), 46);
        CatWitness y = Check.with("sign a means clean; sign b means clean; rule a;");
        Check.none(y, y.tells(1), 6);
        Check.told(y, y.tells(0), 1, 2);
    }

    static void promise46() {
        CatWitness x = Check.with(RULES);
        Check.gave(x, x.mute(), 840 - 126 - 105 - 84 - 4);
        CatWitness y = new CatWitness();
        Check.gave(y, y.mute(), 420);
        CatWitness z = Check.with("smell a; smell b; smell c; smell d; smell e;");
        Check.gave(z, z.mute(), 13440);
    }

    private static final String READERS = "reader a slips 4 votes 1; reader b slips 4 votes 1; reader c slips 4 votes 1;"
        + " reader d slips 0 votes 2; reader e slips 16 votes 9; reader f slips 1 votes 9;";

    static void promise47() {
        CatWitness x = Check.with(READERS);
        Check.told(x, x.verdict(1), 3, 4);
        Check.told(x, x.verdict(3), 9, 16);
        Check.told(x, x.verdict(7), 27, 32);
        Check.told(x, x.verdict(8), 1, 1);
        Check.told(x, x.verdict(16), 0, 1);
        // e always reads wrongly, so f and one more must be right.
        Check.told(x, x.verdict(48), 0, 1);
        Check.told(x, x.verdict(56), 15, 16);
        // d is always right; of the others two must be, or one and no more: 2 against 3 is not enough.
        Check.told(x, x.verdict(15), 63, 64);
        Check.none(x, x.verdict(0), 1);
        Check.none(x, x.verdict(64), 1);
        Check.none(x, x.verdict(-1), 1);
        CatWitness y = new CatWitness();
        Check.none(y, y.verdict(0), 1);
        Check.none(y, y.verdict(1), 1);
        Check.is(y.bottom(), 1);
    }

    static void promise48() {
        CatWitness x = Check.with(READERS);
        Check.gave(x, x.sworn(1), 8);
        // d's votes decide, whoever of a, b, c is with it.
        Check.gave(x, x.sworn(2), 9);
        Check.gave(x, x.sworn(3), 11);
        Check.none(x, x.sworn(0), 1);
        Check.none(x, x.sworn(-1), 1);
        Check.none(x, x.sworn(7), 1);
        Check.gave(x, x.sworn(6), 63);
        CatWitness y = Check.with("reader a slips 16 votes 1; reader b slips 16 votes 1; reader c slips 8 votes 1;");
        Check.gave(y, y.sworn(1), 4);
        Check.gave(y, y.sworn(2), 3);
        Check.gave(y, y.sworn(3), 7);
        Check.none(y, y.sworn(4), 6);
        Check.none(y, y.sworn(6), 6);
        CatWitness z = new CatWitness();
        Check.none(z, z.sworn(1), 6);
        z = Check.with("reader a slips 1 votes 1; reader b slips 2 votes 1; reader c slips 1 votes 1;");
        Check.gave(z, z.sworn(1), 1);
    }

    static void promise49() {
        CatWitness x = Check.with("reader a slips 1 votes 2; reader b slips 2 votes 1; reader c slips 3 votes 1;");
        Check.told(x, x.power(0), 2, 3);
        Check.told(x, x.power(1), 1, 6);
        Check.told(x, x.power(2), 1, 6);
        CatWitness y = Check.with("reader a slips 1 votes 1; reader b slips 2 votes 4; reader c slips 3 votes 1;");
        Check.told(y, y.power(0), 0, 1);
        Check.told(y, y.power(1), 1, 1);
        CatWitness z = Check.with("reader a slips 1 votes 3; reader b slips 2 votes 2; reader c slips 3 votes 2;");
        Check.told(z, z.power(1), 1, 3);
        // Exactly half is not more than half.
        CatWitness w = Check.with("reader a slips 1 votes 1; reader b slips 2 votes 1;");
        Check.told(w, w.power(0), 1, 2);
        CatWitness v = Check.with(READERS);
        Check.none(v, v.power(6), 1);
        Check.none(v, v.power(-1), 1);
        // Of 23 more than half is 12: e turns it with 3 to 11 VOTES ahead, in 216 of 720 orders.
        Check.told(v, v.power(4), 3, 10);
    }
}
