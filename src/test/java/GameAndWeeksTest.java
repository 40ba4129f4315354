/** Promises 50 to 62: WORDS, orders and games, WEEKS, MARKS. */
public final class GameAndWeeksTest {
    public static void main(String[] args) {
        Check.promises(GameAndWeeksTest.class, 50, 62);
    }

    /** It hisses at ann, purrs at bob, stares at cid, shows dot nothing; when warm, it stares at all. */
    private static final String WORDS = "sign hiss means guilty; sign purr means clean; sign stare means nothing;"
        + " rule stare warm > 0; rule hiss guilty fed = 1; rule purr fed = 2; rule stare fed = 3;"
        + " person ann guilty fed 1; person bob fed 2; person cid fed 3; person dot guilty;"
        + " word ann clean; word ann guilty; word bob guilty; word bob clean; word cid guilty; word cid clean; word cid clean;"
        + " word dot clean; word dot guilty; word ann clean;";

    static void promise50() {
        CatWitness x = Check.with(WORDS);
        Check.gave(x, x.clash(), 1 + 4 + 512);
        x.sit(0);
        Check.gave(x, x.clash(), 0);
        x.night();
        x.reread(2, 1);
        Check.gave(x, x.clash(), 1 + 4 + 32 + 64 + 512);
        x.reread(2, 2);
        Check.gave(x, x.clash(), 1 + 4 + 16 + 512);
        CatWitness y = new CatWitness();
        Check.gave(y, y.clash(), 0);
    }

    static void promise51() {
        CatWitness x = Check.with(WORDS);
        // Those of ann and bob that clash, one of cid, one of dot.
        Check.gave(x, x.struck(), 5);
        x.sit(0);
        Check.gave(x, x.struck(), 4);
        CatWitness y = new CatWitness();
        Check.gave(y, y.struck(), 0);
        y = Check.with("person a; person b; word a clean; word b guilty; word a clean;");
        Check.gave(y, y.struck(), 0);
    }

    static void promise52() {
        CatWitness x = Check.with(WORDS);
        Check.gave(x, x.struckSet(), 1 + 4 + 512 + 16 + 128);
        x.sit(0);
        Check.gave(x, x.struckSet(), 2 + 4 + 16 + 128);
        CatWitness y = new CatWitness();
        Check.gave(y, y.struckSet(), 0);
        // As many of either kind: the least as a number is the one without the last WORD.
        y = Check.with("person a; word a clean; word a guilty; word a guilty; word a clean;");
        Check.gave(y, y.struckSet(), 6);
        y = Check.with("person a; word a clean; word a guilty; word a clean; word a guilty;");
        Check.gave(y, y.struckSet(), 5);
    }

    /** It says yes at WARM 0 before c, at 1 before a, at 2 before b, above that before d. */
    private static final String ORDER = "sign yes means clean; sign no means guilty;"
        + " rule yes fed = 3 warm = 0; rule yes fed = 1 warm = 1; rule yes fed = 2 warm = 2; rule yes fed = 4 warm > 2; rule no;"
        + " person a fed 1; person b fed 2; person c fed 3; person d fed 4;";

    static void promise53() {
        CatWitness x = Check.with(ORDER);
        Check.gave(x, x.best(), 4);
        x.sit(0);
        Check.gave(x, x.best(), 3);
        Check.gave(x, x.told(8), 15);
        x.term();
        Check.gave(x, x.best(), 0);
        x.night();
        Check.gave(x, x.best(), 0);
        x.appeal(2);
        x.appeal(3);
        Check.gave(x, x.best(), 1);
        Check.gave(x, x.told(7), 5);
        CatWitness y = new CatWitness();
        Check.gave(y, y.best(), 0);
        // WARM is 9 at most.
        CatWitness z = Check.with("sign yes means clean; rule yes warm = 9; person a; person b; person c;");
        for (int i = 0; i < 8; i++) {
            z.sit(0);
        }
        Check.gave(z, z.best(), 2);
    }

    static void promise54() {
        CatWitness x = Check.with(ORDER);
        order(x, 2, 0, 1, 3);
        // From WARM 1: a, b, then d at 3; c is last, or ahead of d.
        x.sit(0);
        order(x, 0, 1, 2, 3);
        x.sit(0);
        // From WARM 2: b, then d.
        order(x, 1, 0, 2, 3);
        x.term();
        x.night();
        Check.none(x, x.bestAt(0), 6);
        x.appeal(3);
        x.appeal(2);
        order(x, 2, 3);
        Check.none(x, x.bestAt(-1), 1);
        Check.none(x, x.bestAt(Integer.MAX_VALUE), 6);
        CatWitness y = new CatWitness();
        Check.none(y, y.bestAt(0), 6);
        Check.none(y, y.bestAt(-1), 1);
        // None is FREE by any: the first of all orders.
        CatWitness z = Check.with("person a; person b; person c; person d; person e; person f;");
        order(z, 0, 1, 2, 3, 4, 5);
    }

    private static void order(CatWitness x, int... due) {
        for (int k = 0; k < due.length; k++) {
            Check.gave(x, x.bestAt(k), due[k]);
        }
        Check.none(x, x.bestAt(due.length), 6);
    }

    private static final String GAME = "sign yes means clean; rule yes fed = 1; person a;";

    static void promise55() {
        CatWitness x = Check.with(GAME);
        Check.gave(x, x.game(0), 0);
        Check.gave(x, x.game(1), 1);
        // The other side feeds on, or lets be.
        Check.gave(x, x.game(2), 0);
        Check.gave(x, x.game(3), 1);
        Check.none(x, x.game(4), 1);
        Check.none(x, x.game(-1), 1);
        Check.gave(x, x.person(0, 0), 0);
        // All PEOPLE count, those who WAIT no more, too; NONE is a count as well.
        CatWitness y = Check.with("sign no means guilty; sign yes means clean; sign well means nothing;"
            + " rule no guilty; rule well fed > 1; rule yes fed = 1;"
            + " person a guilty; person b guilty; person c fed 1; person d fed 2;");
        Check.gave(y, y.game(0), -1);
        y.term();
        y.night();
        Check.gave(y, y.game(0), -1);
        Check.gave(y, y.game(1), -1);
        Check.gave(y, y.game(2), -2);
        CatWitness z = new CatWitness();
        Check.gave(z, z.game(3), 0);
        // WARM as it is; a PERSON with FED 99 can't feed.
        CatWitness w = Check.with("sign no means guilty; rule no warm = 0; person a fed 99;");
        Check.gave(w, w.game(3), -1);
        w.sit(0);
        Check.gave(w, w.game(3), 0);
        smells();
    }

    /** Two SMELLS, one of which frees, one of which binds. */
    private static void smells() {
        CatWitness x = Check.with("smell r; smell s; sign yes means clean; sign no means guilty; rule no smells s; rule yes smells r;"
            + " person a; person b smells s;");
        Check.gave(x, x.game(0), -1);
        Check.gave(x, x.game(1), 0);
        Check.gave(x, x.game(2), -1);
        Check.gave(x, x.game(3), 0);
        Check.gave(x, x.person(0, 1), 0);
        Check.gave(x, x.person(1, 1), 2);
    }

    static void promise56() {
        CatWitness x = Check.with(GAME);
        Check.gave(x, x.moveOf(1, 0), 0);
        Check.gave(x, x.moveOf(1, 1), 0);
        // All is as good in two turns, and so the first; in three only to do nothing.
        Check.gave(x, x.moveOf(2, 0), 0);
        Check.gave(x, x.moveOf(2, 1), 0);
        Check.none(x, x.moveOf(3, 0), 6);
        Check.none(x, x.moveOf(3, 1), 6);
        Check.none(x, x.moveOf(0, 0), 1);
        Check.none(x, x.moveOf(4, 0), 1);
        Check.none(x, x.moveOf(1, 2), 1);
        Check.none(x, x.moveOf(1, -1), 1);
        CatWitness y = Check.with("smell r; smell s; smell t; sign yes means clean; sign no means guilty; rule no smells s; rule yes smells t;"
            + " person a; person b smells s t; person c smells t;");
        // To wash b of s wins two, to rub a with t but one.
        Check.gave(y, y.moveOf(1, 0), 1);
        Check.gave(y, y.moveOf(1, 1), 2);
        y.scent(1, 1, false);
        Check.gave(y, y.moveOf(1, 0), 0);
        Check.gave(y, y.moveOf(1, 1), 3);
        // All are freed: to feed changes nothing, and is ahead of doing nothing, but for one with FED 99.
        y.scent(0, 2, true);
        Check.gave(y, y.moveOf(1, 0), 0);
        Check.gave(y, y.moveOf(1, 1), 0);
        y.meal(0, 99);
        Check.gave(y, y.moveOf(1, 0), 0);
        Check.gave(y, y.moveOf(1, 1), 1);
        CatWitness z = Check.with("person a fed 99;");
        Check.none(z, z.moveOf(1, 0), 6);
        CatWitness w = new CatWitness();
        Check.none(w, w.moveOf(3, 0), 6);
    }

    static void promise57() {
        CatWitness x = Check.with("person a fed 99; person b; person c fed 7;");
        Check.none(x, x.copyFed(0), 2);
        Check.none(x, x.copyFed(4), 1);
        Check.none(x, x.copyFed(-1), 1);
        x.tray(0, 0, 2);
        Check.none(x, x.copyFed(0), 3);
        Check.gave(x, x.read(0, 0), 0);
        x.tray(0, 0, 4);
        x.write(0, 1, 5);
        x.write(0, 3, 5);
        Check.gave(x, x.copyFed(0), 3);
        int[] due = {99, 0, 7, 5};
        for (int i = 0; i < due.length; i++) {
            Check.gave(x, x.read(0, i), due[i]);
        }
        x.tray(1, 3, 3);
        Check.gave(x, x.copyFed(1), 3);
        CatWitness y = new CatWitness();
        y.tray(2, 1, 0);
        Check.gave(y, y.copyFed(2), 0);
    }

    private static final String COURT = "smell fish; sign hiss means guilty; sign purr means clean; sign nap means nothing;"
        + " rule nap warm = 2; rule hiss guilty fed < 3; rule purr smells fish;"
        + " person ann guilty fed 1; person bob; person cid smells fish;";

    static void promise58() {
        CatWitness x = Check.with(COURT);
        Check.none(x, x.live(0), 6);
        Check.none(x, x.live(-1), 1);
        Check.none(x, x.live(10000), 1);
        Check.weeks(x, "sit bob; feed ann 9; rub bob fish; wash cid fish; term; night;");
        Check.none(x, x.live(-1), 1);
        Check.none(x, x.live(10000), 1);
        Check.gave(x, x.live(9999), 6);
        // It stays: WARM was 1, then ann was shown nothing, bob nap, cid nothing.
        int[] told = {1, 3, 3, 3, 0, 0, 0, 4, 7, 0, 0, 1, 0};
        for (int what = 0; what < told.length; what++) {
            Check.gave(x, x.told(what), told[what]);
        }
        Check.gave(x, x.person(0, 0), 10);
        Check.gave(x, x.person(1, 1), 1);
        Check.gave(x, x.person(2, 1), 0);
        Check.gave(x, x.person(1, 4), 2);
        draws();
        blocks();
        limits();
    }

    private static void draws() {
        // Seed 0 draws 2 0, 1 2, 2 2, 1 1, 1 1, 1 3.
        CatWitness x = Check.with(COURT);
        Check.weeks(x, "any; any; any; any; any; any;");
        Check.gave(x, x.live(0), 6);
        Check.gave(x, x.person(0, 0), 1);
        Check.gave(x, x.person(1, 0), 2 + 1 + 1 + 3);
        Check.gave(x, x.person(2, 0), 2);
        Check.gave(x, x.lived(0), 1);
        // A draw is made for one with FED 99, too: seed 2 draws 0 2, 1 2, 1 1, 0 1, 2 3, 1 3.
        x = Check.with("person ann fed 98; person bob; person cid;");
        Check.weeks(x, "any; any; any; any; any; any;");
        Check.gave(x, x.live(2), 6);
        Check.gave(x, x.person(0, 0), 99);
        Check.gave(x, x.person(1, 0), 6);
        Check.gave(x, x.person(2, 0), 3);
        Check.gave(x, x.lived(0), 1);
        // Alone, one is drawn as well: seed 1 draws 0 1, 0 0, 0 1.
        x = Check.with("person ann;");
        Check.weeks(x, "any; any; any;");
        Check.gave(x, x.live(1), 3);
        Check.gave(x, x.person(0, 0), 2);
        Check.gave(x, x.lived(0), 1);
        // Without PEOPLE there is none, and it is MISSED.
        x = new CatWitness();
        Check.weeks(x, "any; any;");
        Check.gave(x, x.live(5), 2);
        Check.gave(x, x.lived(0), 2);
    }

    private static void blocks() {
        CatWitness x = Check.with(COURT);
        // loop, when count as often as they are come to from ahead, end never.
        Check.weeks(x, "loop 3; loop 2; feed bob 1; end; when warm < 1; feed cid 1; end; sit bob; end; stop; feed bob 9;");
        Check.gave(x, x.live(0), 1 + 3 * (1 + 2 + 1 + 1) + 1 + 1);
        Check.gave(x, x.person(1, 0), 6);
        Check.gave(x, x.person(2, 0), 1);
        Check.gave(x, x.told(6), 3);
        // An empty one, and one that stops within.
        Check.weeks(x, "loop 99; end; loop 5; feed bob 1; when warm = 3; stop; end; end;");
        Check.gave(x, x.live(0), 5);
        Check.gave(x, x.person(1, 0), 7);
        // Each TEST, so and not so.
        x = Check.with(COURT);
        Check.weeks(x, "when shows ann hiss; feed bob 1; end; when shows bob hiss; feed bob 2; end; when shows cid purr; feed bob 4; end;");
        x.live(0);
        Check.gave(x, x.person(1, 0), 5);
        x = Check.with(COURT);
        x.term();
        Check.gave(x, x.told(10), 1);
        Check.weeks(x, "when held ann; feed bob 1; end; when held bob; feed bob 2; end; when free ann; feed bob 4; end; night;"
            + " term; when free cid; feed bob 8; end; when free bob; feed bob 9; end; when warm > 1; feed cid 1; end; when warm = 2; feed cid 3; end;"
            + " when warm < 2; feed cid 9; end;");
        x.live(0);
        Check.gave(x, x.person(1, 0), 9);
        Check.gave(x, x.person(2, 0), 4);
    }

    private static void limits() {
        CatWitness x = Check.with("person a; person b;");
        Check.weeks(x, "loop 99; loop 2; sit a; end; end;");
        // 1 + 99 loops of 1 + 2 STEPS come to 298.
        Check.gave(x, x.live(0), 298);
        Check.gave(x, x.lived(4), 0);
        Check.gave(x, x.told(7), 198);
        Check.weeks(x, "loop 99; loop 2; sit a; end; end; night; feed b 1;");
        Check.gave(x, x.live(0), 300);
        Check.gave(x, x.lived(4), 0);
        Check.gave(x, x.person(1, 0), 1);
        Check.weeks(x, "loop 99; loop 2; sit a; end; end; night; feed b 1; feed b 1;");
        Check.gave(x, x.live(0), 300);
        Check.gave(x, x.lived(4), 1);
        Check.gave(x, x.person(1, 0), 2);
        Check.weeks(x, "loop 99; loop 2; sit a; end; end; night; stop; feed b 1;");
        Check.gave(x, x.live(0), 300);
        Check.gave(x, x.lived(4), 0);
        Check.weeks(x, "loop 99; loop 99; loop 99; end; end; end;");
        Check.gave(x, x.live(0), 300);
        Check.gave(x, x.lived(4), 1);
        Check.gave(x, x.lived(0), 0);
        // A loop left empty on its 300th STEP has nothing left.
        Check.weeks(x, "loop 99; loop 2; sit a; end; end; night; loop 99; end;");
        Check.gave(x, x.live(0), 300);
        Check.gave(x, x.lived(4), 0);
    }

    static void promise59() {
        CatWitness x = Check.with(COURT);
        for (int what = 0; what < 5; what++) {
            Check.none(x, x.lived(what), 6);
        }
        Check.none(x, x.lived(5), 1);
        Check.none(x, x.lived(-1), 1);
        // MISSED: a night, a wash, a rub, and the TERM without any who WAITS.
        Check.weeks(x, "night; wash ann fish; rub cid fish; sit bob; night; rub bob fish; term; night; term; term; feed bob 1;");
        Check.gave(x, x.live(3), 11);
        // ann is HELD at WARM 0, bob FREE at 1, cid naps at 2 and is FREE by the next.
        lived(x, 4, 5, 2, 1, 0);
        // Whatever comes behind it.
        Check.none(x, x.live(10000), 1);
        Check.gave(x, x.mean(0, 3));
        x.term();
        Check.court(x, "person a;");
        Check.none(x, x.live(0), 6);
        x.mark();
        x.undo();
        lived(x, 4, 5, 2, 1, 0);
        Check.weeks(x, "");
        Check.gave(x, x.live(0), 0);
        lived(x, 0, 0, 0, 0, 0);
        // Those who were FREE, HELD ahead of it count not; a stop is not MISSED.
        x = Check.with(COURT);
        x.term();
        Check.gave(x, x.told(10), 1);
        Check.weeks(x, "term; term; stop; night;");
        Check.gave(x, x.live(0), 3);
        lived(x, 0, 3, 1, 0, 0);
        Check.weeks(x, "rub bob fish; night; term; stop;");
        Check.gave(x, x.live(0), 4);
        lived(x, 0, 1, 1, 0, 0);
        Check.gave(x, x.told(9), 6);
        x.blame(1, true);
        x.appeal(1);
        x.appeal(2);
        Check.gave(x, x.live(0), 4);
        lived(x, 1, 2, 1, 1, 0);
        // MISSED: feeding one with FED 99; not one with 98.
        x = Check.with("person a fed 98;");
        Check.weeks(x, "feed a 9; feed a 9; feed a 1; any; any;");
        Check.gave(x, x.live(0), 5);
        lived(x, 4, 0, 0, 0, 0);
        Check.gave(x, x.person(0, 0), 99);
        // MISSED: SITTINGS above 9,999, a TERM as a whole.
        x = Check.with("person a; person b; person c;");
        Check.weeks(x, "loop 99; term; end;");
        for (int i = 0; i < 33; i++) {
            x.live(0);
        }
        for (int i = 33 * 297; i < 9997; i++) {
            x.sit(0);
        }
        Check.weeks(x, "term; sit a; term; sit b; sit c; term;");
        Check.gave(x, x.live(0), 6);
        lived(x, 4, 2, 0, 0, 0);
        Check.gave(x, x.told(7), 9999);
        Check.gave(x, x.person(2, 4), 33 * 99);
    }

    private static void lived(CatWitness x, int... due) {
        for (int what = 0; what < due.length; what++) {
            Check.gave(x, x.lived(what), due[what]);
        }
    }

    static void promise60() {
        CatWitness x = Check.with(COURT);
        Check.none(x, x.mean(0, 1), 6);
        Check.weeks(x, "any; any; any; any; any; any; term;");
        // ann has FED 1; seeds 0 to 3 feed 9, 6, 12, 5.
        Check.told(x, x.mean(0, 1), 1 + 9, 1);
        Check.told(x, x.mean(1, 1), 1 + 6, 1);
        Check.told(x, x.mean(2, 1), 1 + 12, 1);
        Check.told(x, x.mean(3, 1), 1 + 5, 1);
        Check.told(x, x.mean(0, 2), 17, 2);
        Check.told(x, x.mean(0, 3), 10, 1);
        Check.told(x, x.mean(1, 3), 26, 3);
        // All stays.
        Check.gave(x, x.told(7), 0);
        Check.gave(x, x.told(8), 7);
        Check.gave(x, x.person(1, 0), 0);
        Check.none(x, x.lived(0), 6);
        Check.gave(x, x.mean(9999, 1));
        Check.gave(x, x.mean(9980, 20));
        Check.none(x, x.mean(9999, 2), 1);
        Check.none(x, x.mean(9981, 20), 1);
        Check.none(x, x.mean(0, 0), 1);
        Check.none(x, x.mean(0, 21), 1);
        Check.none(x, x.mean(0, -1), 1);
        Check.none(x, x.mean(-1, 2), 1);
        Check.none(x, x.mean(10000, 1), 1);
        Check.none(x, x.mean(Integer.MAX_VALUE, 20), 1);
        CatWitness y = new CatWitness();
        Check.none(y, y.mean(0, 0), 1);
        Check.weeks(y, "any;");
        Check.told(y, y.mean(0, 7), 0, 1);
    }

    static void promise61() {
        CatWitness x = Check.with(COURT);
        Check.gave(x, x.mark(), 1);
        Check.gave(x, x.mark(), 2);
        x.sit(0);
        Check.gave(x, x.mark(), 3);
        Check.none(x, x.mark(), 4);
        Check.gave(x, x.undo(), 2);
        Check.gave(x, x.mark(), 3);
        Check.none(x, x.mark(), 4);
        // They stay with another COURT, too.
        Check.court(x, "");
        Check.none(x, x.mark(), 4);
        Check.gave(x, x.undo(), 2);
        Check.gave(x, x.told(3), 3);
    }

    static void promise62() {
        CatWitness x = Check.with(COURT + " reader u slips 3 votes 2; word ann clean;");
        Check.none(x, x.undo(), 6);
        Check.weeks(x, "sit ann; any;");
        x.term();
        int ahead = state(x);
        x.mark();
        // All that can become of it; what is no part of it stays as it is.
        x.live(0);
        x.meal(0, 3);
        x.scent(0, 0, true);
        x.blame(0, false);
        x.appeal(0);
        x.reread(0, 2);
        x.strain(0, 9);
        x.repeal(0);
        x.enact(0, 0, 5);
        x.enact(1, 0, 5);
        x.night();
        x.tray(0, 0, 1);
        x.write(0, 0, 9);
        Check.weeks(x, "any; any; any;");
        x.mark();
        int then = state(x);
        Check.court(x, "person ann; person bob; person cid; person dot;");
        x.verdict(0);
        x.mark();
        x.sit(0);
        Check.gave(x, x.undo(), 2);
        Check.gave(x, x.told(7), 0);
        Check.gave(x, x.told(3), 4);
        Check.none(x, x.live(0), 6);
        Check.gave(x, x.undo(), 1);
        Check.is(state(x), then);
        Check.gave(x, x.read(0, 0), 9);
        x.verdict(1);
        Check.gave(x, x.undo(), 0);
        Check.is(x.top(), 7);
        Check.is(state(x), ahead);
        Check.gave(x, x.read(0, 0), 9);
        Check.none(x, x.undo(), 6);
        Check.gave(x, x.live(0), 2);
        Check.gave(x, x.lived(1), 1);
        // Names are kept, too.
        Check.gave(x, Check.weeks(x, "when shows ann hiss; rub bob fish; end;"), 2);
        CatWitness y = new CatWitness();
        y.mark();
        Check.court(y, COURT);
        Check.gave(y, y.undo(), 0);
        Check.gave(y, y.told(3), 0);
        Check.none(y, Check.weeks(y, "sit ann;"), 9);
    }

    /** All that is told of a COURT, and how many STEPS its WEEKS have, by a number. */
    private static int state(CatWitness x) {
        int sum = 0;
        for (int what = 0; what <= 12; what++) {
            sum = sum * 31 + x.told(what);
        }
        // No more than these few: nothing is promised behind the 512th call.
        for (int i = 0; i < 4; i++) {
            for (int what = 0; what < 5; what++) {
                sum = sum * 31 + x.rule(i, what);
                sum = sum * 31 + x.person(i, what);
                sum = sum * 31 + x.reader(i, what);
                sum = sum * 31 + x.word(i, what);
            }
            sum = sum * 31 + x.sense(i);
        }
        x.mean(17, 5);
        return sum * 31 + (int) (100 * x.top() / x.bottom());
    }
}
