/** Promises 19 to 36: what is done, and what the cat shows. */
public final class DeedTest {
    /** Before the guilty it hisses, before the well known it purrs, when warm it sleeps, before fish it stares. */
    private static final String COURT = "smell fish; smell hay;"
        + " sign hiss means guilty; sign purr means clean; sign nap means nothing;"
        + " rule hiss guilty fed < 3; rule purr fed > 5 warm < 4; rule nap warm = 2; rule purr clean smells hay;"
        + " person ann guilty fed 1; person bob fed 6 smells fish; person cid smells hay; person dot guilty fed 3;";

    public static void main(String[] args) {
        Check.promises(DeedTest.class, 19, 36);
    }

    static void promise19() {
        CatWitness x = Check.with(COURT);
        Check.gave(x, x.sit(0), 0);
        Check.gave(x, x.told(6), 1);
        Check.gave(x, x.told(7), 1);
        // Only a TERM makes one FREE, or HELD.
        Check.gave(x, x.person(0, 2), 0);
        Check.gave(x, x.sit(1), 1);
        Check.gave(x, x.sit(3), 2);
        Check.gave(x, x.sit(3), 3);
        Check.gave(x, x.person(3, 4), 2);
        for (int i = 4; i < 12; i++) {
            x.sit(2);
        }
        Check.gave(x, x.told(6), 9);
        Check.gave(x, x.told(7), 12);
        Check.none(x, x.sit(4), 1);
        Check.none(x, x.sit(-1), 1);
        // None at all is as many as there are CUES, be these none, too.
        CatWitness y = Check.with("person a;");
        Check.gave(y, y.sit(0), 0);
        CatWitness z = worn(9998);
        Check.gave(z, z.sit(0), 1);
        Check.gave(z, z.told(7), 9999);
        Check.none(z, z.sit(0), 4);
        Check.none(z, z.sit(1), 1);
        Check.gave(z, z.told(7), 9999);
        Check.gave(z, z.person(0, 4), 9999);
    }

    /** One PERSON, before whom there were so many SITTINGS. */
    private static CatWitness worn(int sittings) {
        CatWitness x = Check.with("sign a means clean; person p;");
        Check.weeks(x, "loop 99; sit p; sit p; sit p; end;");
        for (int i = 0; i < 33; i++) {
            x.live(0);
        }
        for (int i = 33 * 297; i < sittings; i++) {
            x.sit(0);
        }
        Check.gave(x, x.told(7), sittings);
        return x;
    }

    static void promise20() {
        CatWitness x = Check.with(COURT);
        // ann: hiss; bob at WARM 1: purr; cid at 2: nap; dot at 3: none.
        Check.gave(x, x.term(), 2);
        Check.gave(x, x.told(8), 12);
        Check.gave(x, x.told(9), 2);
        Check.gave(x, x.told(10), 1);
        Check.gave(x, x.told(6), 4);
        Check.gave(x, x.told(7), 4);
        // cid at WARM 4: purr; dot: none. Those who are FREE, HELD are sat before no more.
        Check.gave(x, x.term(), 4);
        Check.gave(x, x.told(7), 6);
        Check.gave(x, x.person(1, 4), 1);
        Check.gave(x, x.term(), 0);
        x.scent(3, 1, true);
        x.blame(3, false);
        Check.gave(x, x.term(), 8);
        Check.none(x, x.term(), 7);
        CatWitness y = new CatWitness();
        Check.none(y, y.term(), 7);
        // Above 9,999 as a whole, and that ahead of nobody who WAITS.
        CatWitness z = worn(9999);
        Check.none(z, z.term(), 4);
        Check.gave(z, z.told(7), 9999);
        z = Check.with("sign a means clean; person p; person q;");
        Check.weeks(z, "loop 99; term; sit p; end;");
        for (int i = 0; i < 33; i++) {
            z.live(0);
        }
        for (int i = 33 * 297; i < 9998; i++) {
            z.sit(0);
        }
        Check.none(z, z.term(), 4);
        Check.gave(z, z.told(7), 9998);
        z.sit(1);
        z.enact(0, 0, 5);
        Check.none(z, z.term(), 4);
        // Nobody WAITS, and 9,999 are not passed by that.
        CatWitness w = worn(9998);
        w.enact(0, 0, 5);
        Check.gave(w, w.term(), 1);
        Check.none(w, w.term(), 7);
    }

    static void promise21() {
        CatWitness x = Check.with(COURT);
        Check.gave(x, x.meal(2, 1), 1);
        Check.gave(x, x.meal(2, 97), 98);
        Check.gave(x, x.meal(2, 2), 99);
        Check.none(x, x.meal(2, 1), 7);
        Check.gave(x, x.meal(1, 99), 99);
        Check.none(x, x.meal(1, 0), 1);
        Check.none(x, x.meal(0, 0), 1);
        Check.none(x, x.meal(0, 100), 1);
        Check.none(x, x.meal(0, -1), 1);
        Check.none(x, x.meal(4, 1), 1);
        Check.none(x, x.meal(-1, 1), 1);
        Check.gave(x, x.person(0, 0), 1);
    }

    static void promise22() {
        CatWitness x = Check.with(COURT);
        Check.gave(x, x.scent(1, 1, true));
        Check.gave(x, x.person(1, 1), 3);
        Check.none(x, x.scent(1, 1, true), 7);
        Check.gave(x, x.scent(1, 0, false));
        Check.none(x, x.scent(1, 0, false), 7);
        Check.gave(x, x.person(1, 1), 2);
        Check.none(x, x.scent(4, 0, true), 1);
        Check.none(x, x.scent(-1, 0, true), 1);
        Check.none(x, x.scent(0, 2, true), 1);
        Check.none(x, x.scent(0, -1, true), 1);
        Check.gave(x, x.person(0, 1), 0);
    }

    static void promise23() {
        CatWitness x = Check.with(COURT);
        Check.none(x, x.night(), 7);
        x.sit(0);
        x.sit(0);
        Check.gave(x, x.night(), 2);
        Check.gave(x, x.told(6), 0);
        Check.none(x, x.night(), 7);
        Check.gave(x, x.told(7), 2);
    }

    static void promise24() {
        CatWitness x = Check.with(COURT);
        Check.none(x, x.appeal(0), 7);
        x.term();
        Check.gave(x, x.appeal(0), 2);
        Check.gave(x, x.appeal(1), 1);
        Check.none(x, x.appeal(1), 7);
        Check.none(x, x.appeal(4), 1);
        Check.none(x, x.appeal(-1), 1);
        Check.gave(x, x.told(8), 15);
        Check.gave(x, x.told(9), 0);
        Check.gave(x, x.person(0, 4), 1);
    }

    static void promise25() {
        CatWitness x = Check.with(COURT);
        Check.none(x, x.blame(0, true), 7);
        Check.gave(x, x.blame(0, false));
        Check.none(x, x.blame(0, false), 7);
        Check.gave(x, x.blame(1, true));
        Check.gave(x, x.told(11), 10);
        Check.none(x, x.blame(4, true), 1);
        Check.none(x, x.blame(-1, true), 1);
        Check.none(x, x.cue(0), 6);
    }

    static void promise26() {
        CatWitness x = Check.with(COURT);
        for (int sense = 0; sense <= 2; sense++) {
            Check.gave(x, x.reread(0, sense));
            Check.gave(x, x.sense(0), sense);
        }
        Check.gave(x, x.reread(0, 2));
        Check.none(x, x.reread(0, 3), 1);
        Check.none(x, x.reread(0, -1), 1);
        Check.none(x, x.reread(3, 0), 1);
        Check.none(x, x.reread(-1, 0), 1);
        Check.gave(x, x.sense(0), 2);
        Check.gave(x, x.sense(1), 2);
        Check.gave(x, x.term(), 3);
    }

    static void promise27() {
        CatWitness x = Check.with(COURT);
        Check.gave(x, x.enact(0, 0, 5), 4);
        int[] due = {0, 0, -1, -1, -1};
        for (int what = 0; what < 5; what++) {
            Check.is(x.rule(4, what), due[what]);
        }
        Check.gave(x, x.cue(3), 0);
        Check.gave(x, x.enact(2, 1, 1), 5);
        int[] then = {2, 1, -1, -1, 1};
        for (int what = 0; what < 5; what++) {
            Check.is(x.rule(5, what), then[what]);
        }
        Check.gave(x, x.enact(2, 2, 0), 6);
        Check.gave(x, x.rule(6, 1), 2);
        Check.gave(x, x.rule(6, 4), 0);
        Check.none(x, x.enact(3, 0, 0), 1);
        Check.none(x, x.enact(-1, 0, 0), 1);
        Check.none(x, x.enact(0, 3, 0), 1);
        Check.none(x, x.enact(0, -1, 0), 1);
        Check.none(x, x.enact(0, 0, 2), 1);
        Check.none(x, x.enact(0, 0, 4), 1);
        Check.none(x, x.enact(0, 0, 6), 1);
        Check.none(x, x.enact(0, 0, -1), 1);
        Check.gave(x, x.enact(1, 0, 5), 7);
        Check.none(x, x.enact(1, 0, 5), 4);
        Check.none(x, x.enact(3, 0, 5), 1);
        Check.gave(x, x.told(2), 8);
        // One that comes in place of a RULE that went has nothing of it.
        Check.gave(x, x.repeal(0), 7);
        Check.gave(x, x.enact(1, 0, 5), 7);
        Check.none(x, x.rule(7, 2), 6);
        Check.gave(x, x.rule(7, 1), 0);
    }

    static void promise28() {
        CatWitness x = Check.with(COURT);
        Check.gave(x, x.bears(0), 0);
        Check.gave(x, x.repeal(0), 3);
        Check.none(x, x.bears(0), 6);
        Check.gave(x, x.rule(0, 2), 5);
        Check.gave(x, x.rule(0, 3), 4);
        Check.gave(x, x.rule(1, 3), 2);
        Check.gave(x, x.rule(2, 4), 1);
        Check.none(x, x.rule(3, 0), 1);
        Check.none(x, x.repeal(3), 1);
        Check.none(x, x.repeal(-1), 1);
        Check.gave(x, x.repeal(2), 2);
        Check.gave(x, x.repeal(0), 1);
        Check.gave(x, x.rule(0, 0), 2);
        Check.gave(x, x.repeal(0), 0);
        Check.none(x, x.repeal(0), 1);
    }

    static void promise29() {
        CatWitness x = Check.with("reader a slips 4 votes 1; reader b slips 5 votes 1;");
        Check.gave(x, x.strain(1, 16));
        Check.gave(x, x.reader(1, 0), 16);
        Check.gave(x, x.strain(1, 0));
        Check.gave(x, x.strain(1, 0));
        Check.gave(x, x.reader(1, 0), 0);
        Check.gave(x, x.reader(0, 0), 4);
        Check.none(x, x.strain(1, 17), 1);
        Check.none(x, x.strain(1, -1), 1);
        Check.none(x, x.strain(2, 1), 1);
        Check.none(x, x.strain(-1, 1), 1);
        Check.gave(x, x.reader(1, 0), 0);
    }

    static void promise30() {
        CatWitness x = Check.with(COURT);
        Check.gave(x, x.cue(0), 0);
        Check.gave(x, x.cue(1), 1);
        Check.gave(x, x.cue(2), 1);
        Check.none(x, x.cue(3), 6);
        Check.none(x, x.cue(4), 1);
        Check.none(x, x.cue(-1), 1);
        x.sit(3);
        x.sit(3);
        Check.gave(x, x.cue(3), 2);
        Check.gave(x, x.told(7), 2);
    }

    static void promise31() {
        CatWitness x = Check.with(COURT);
        Check.gave(x, x.cueAt(3, 2), 2);
        Check.none(x, x.cueAt(3, 1), 6);
        Check.gave(x, x.cueAt(1, 3), 1);
        Check.none(x, x.cueAt(1, 4), 6);
        Check.gave(x, x.cueAt(2, 9), 1);
        Check.gave(x, x.cueAt(0, 2), 0);
        Check.none(x, x.cueAt(3, 10), 1);
        Check.none(x, x.cueAt(3, -1), 1);
        Check.none(x, x.cueAt(4, 0), 1);
        Check.none(x, x.cueAt(-1, 0), 1);
        Check.gave(x, x.told(6), 0);
    }

    static void promise32() {
        CatWitness x = Check.with(COURT);
        Check.gave(x, x.bears(0), 0);
        Check.gave(x, x.bears(1), 1);
        Check.gave(x, x.bears(2), 3);
        Check.none(x, x.bears(3), 6);
        x.sit(3);
        x.sit(3);
        Check.gave(x, x.bears(2), 2);
        Check.gave(x, x.bears(3), 2);
        Check.none(x, x.bears(4), 1);
        Check.none(x, x.bears(-1), 1);
    }

    static void promise33() {
        CatWitness x = Check.with(COURT);
        x.sit(3);
        x.sit(3);
        Check.gave(x, x.bearing(0), 5);
        Check.gave(x, x.bearing(1), 6);
        Check.gave(x, x.bearing(2), 12);
        x.night();
        Check.gave(x, x.bearing(3), 0);
        Check.none(x, x.bearing(4), 1);
        Check.none(x, x.bearing(-1), 1);
    }

    static void promise34() {
        CatWitness x = Check.with(COURT);
        Check.gave(x, x.shown(0), 1);
        Check.gave(x, x.shown(1), 6);
        Check.gave(x, x.shown(2), 0);
        Check.none(x, x.shown(3), 1);
        Check.none(x, x.shown(-1), 1);
        // Whoever WAITS or not.
        x.term();
        x.night();
        Check.gave(x, x.shown(1), 6);
    }

    static void promise35() {
        CatWitness x = Check.with(COURT);
        Check.gave(x, x.freeIn(0), 0);
        Check.gave(x, x.freeIn(1), 2);
        Check.gave(x, x.freeIn(2), 6);
        Check.gave(x, x.freeIn(40), 6);
        Check.none(x, x.freeIn(41), 1);
        Check.none(x, x.freeIn(-1), 1);
        Check.gave(x, x.told(7), 0);
        Check.gave(x, x.told(8), 15);
        x.term();
        Check.gave(x, x.freeIn(0), 2);
        Check.gave(x, x.freeIn(1), 6);
        // The 9,999th SITTING does not matter.
        CatWitness y = worn(9999);
        y.enact(0, 0, 5);
        Check.gave(y, y.freeIn(1), 1);
    }

    static void promise36() {
        CatWitness x = Check.with(COURT);
        Check.gave(x, x.judgedIn(0), 1);
        Check.gave(x, x.judgedIn(1), 1);
        Check.gave(x, x.judgedIn(2), 2);
        Check.none(x, x.judgedIn(3), 6);
        Check.none(x, x.judgedIn(4), 1);
        Check.none(x, x.judgedIn(-1), 1);
        x.term();
        Check.none(x, x.judgedIn(0), 7);
        Check.gave(x, x.judgedIn(2), 1);
        Check.gave(x, x.told(7), 4);
        CatWitness y = worn(9999);
        y.enact(0, 0, 5);
        Check.gave(y, y.judgedIn(0), 1);
        // 9 TERMS till it is warm enough: WARM 9 is there at the tenth.
        CatWitness z = Check.with("sign a means guilty; rule a warm = 9; person p;");
        Check.gave(z, z.judgedIn(0), 10);
    }
}
