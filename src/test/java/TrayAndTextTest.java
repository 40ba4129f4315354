/** Promises 1 to 18: a new object, TRAYS, texts and what they tell. */
public final class TrayAndTextTest {
    public static void main(String[] args) {
        Check.promises(TrayAndTextTest.class, 1, 18);
    }

    static void promise1() {
        CatWitness x = new CatWitness();
        Check.is(x.status(), 0);
        Check.is(x.top(), 0);
        Check.is(x.bottom(), 1);
        for (int what = 0; what <= 12; what++) {
            Check.gave(x, x.told(what), 0);
        }
        for (int tray = 0; tray < 4; tray++) {
            Check.none(x, x.read(tray, 0), 2);
        }
        Check.none(x, x.live(0), 6);
        Check.none(x, x.lived(0), 6);
        Check.none(x, x.undo(), 6);
        Check.none(x, x.court(1), 1);
        Check.is(x.fault(0), -1);
        Check.is(CatWitness.NONE, -1);
    }

    static void promise2() {
        CatWitness x = new CatWitness();
        x.term();
        Check.is(x.status(), 7);
        // These five have none of their own.
        x.top();
        x.bottom();
        x.feed(0, 0, 0, 0, 0);
        x.fault(0);
        x.fault(5);
        x.status();
        Check.is(x.status(), 7);
        x.told(0);
        Check.is(x.status(), 0);
        x.told(13);
        Check.is(x.status(), 1);
    }

    static void promise3() {
        CatWitness x = Check.with("reader a slips 4 votes 1;");
        x.verdict(1);
        Check.is(x.top(), 3);
        // A call that tells none leaves it.
        x.verdict(0);
        x.told(0);
        Check.is(x.top(), 3);
        x.strain(0, 16);
        x.verdict(1);
        Check.is(x.top(), 0);
    }

    static void promise4() {
        CatWitness x = Check.with("reader a slips 4 votes 1;");
        x.verdict(1);
        Check.is(x.bottom(), 4);
        x.verdict(2);
        Check.is(x.bottom(), 4);
        x.strain(0, 16);
        x.verdict(1);
        Check.is(x.bottom(), 1);
    }

    static void promise5() {
        CatWitness x = new CatWitness();
        Check.gave(x, x.tray(0, 0, 60));
        Check.gave(x, x.read(0, 59), 0);
        Check.none(x, x.read(0, 60), 3);
        Check.gave(x, x.tray(3, 3, 0));
        Check.none(x, x.read(3, 0), 3);
        Check.none(x, x.read(1, 0), 2);
        Check.none(x, x.tray(4, 0, 1), 1);
        Check.none(x, x.tray(-1, 0, 1), 1);
        Check.none(x, x.tray(0, 4, 1), 1);
        Check.none(x, x.tray(0, -1, 1), 1);
        Check.none(x, x.tray(0, 0, 61), 1);
        Check.none(x, x.tray(0, 0, -1), 1);
        // One that is there already is a row of 0s anew.
        x.write(0, 0, 7);
        x.write(0, 3, 7);
        Check.gave(x, x.tray(0, 1, 4));
        Check.gave(x, x.read(0, 0), 0);
        Check.gave(x, x.read(0, 3), 0);
        Check.none(x, x.read(0, 4), 3);
        Check.gave(x, x.tray(0, 1, 5));
        Check.gave(x, x.read(0, 4), 0);
    }

    static void promise6() {
        CatWitness x = new CatWitness();
        long v = 0x1234567890abcdefL;
        long[] due = {(byte) v, (short) v, (int) v, v};
        for (int sort = 0; sort < 4; sort++) {
            x.tray(sort, sort, 2);
            Check.gave(x, x.write(sort, 1, v));
            Check.gave(x, x.read(sort, 1), due[sort]);
            Check.gave(x, x.read(sort, 0), 0);
            Check.none(x, x.write(sort, 2, 1), 3);
            Check.none(x, x.write(sort, -1, 1), 3);
            Check.none(x, x.write(sort, Integer.MAX_VALUE, 1), 3);
        }
        Check.gave(x, x.write(0, 0, 128));
        Check.gave(x, x.read(0, 0), -128);
        Check.gave(x, x.write(1, 0, 65535));
        Check.gave(x, x.read(1, 0), -1);
        Check.gave(x, x.write(3, 0, Long.MIN_VALUE));
        Check.gave(x, x.read(3, 0), Long.MIN_VALUE);
        Check.none(x, x.write(4, 0, 1), 1);
        Check.none(x, x.write(-1, 0, 1), 1);
        // A TRAY that is MISSING comes ahead of a place that it has not.
        CatWitness y = new CatWitness();
        Check.none(y, y.write(2, -1, 1), 2);
    }

    static void promise7() {
        CatWitness x = new CatWitness();
        Check.none(x, x.read(0, 0), 2);
        Check.none(x, x.read(0, -1), 2);
        Check.none(x, x.read(4, 0), 1);
        Check.none(x, x.read(-1, -1), 1);
        x.tray(0, 2, 3);
        x.write(0, 2, -1);
        Check.gave(x, x.read(0, 2), -1);
        Check.none(x, x.read(0, 3), 3);
        Check.none(x, x.read(0, -1), 3);
    }

    static void promise8() {
        CatWitness x = new CatWitness();
        x.tray(0, 1, 5);
        x.tray(1, 1, 3);
        x.tray(2, 0, 5);
        for (int i = 0; i < 5; i++) {
            x.write(0, i, 10 + i);
        }
        Check.gave(x, x.pour(0, 3, 1, 1, 2));
        row(x, 1, 0, 13, 14);
        row(x, 0, 10, 11, 12, 13, 14);
        // Its own place: as they were ahead of it, whichever way.
        Check.gave(x, x.pour(0, 0, 0, 1, 4));
        row(x, 0, 10, 10, 11, 12, 13);
        Check.gave(x, x.pour(0, 1, 0, 0, 4));
        row(x, 0, 10, 11, 12, 13, 13);
        Check.gave(x, x.pour(0, 2, 0, 2, 3));
        row(x, 0, 10, 11, 12, 13, 13);
        Check.gave(x, x.pour(0, 0, 1, 0, 0));
        row(x, 1, 0, 13, 14);
        Check.none(x, x.pour(0, 4, 1, 0, 2), 3);
        Check.none(x, x.pour(0, 0, 1, 2, 2), 3);
        Check.none(x, x.pour(0, 6, 1, 0, 0), 3);
        Check.none(x, x.pour(0, Integer.MAX_VALUE, 1, 0, Integer.MAX_VALUE), 3);
        Check.none(x, x.pour(0, 1, 1, Integer.MAX_VALUE, 1), 3);
        // In this order: 1, 2, 8, 3.
        Check.none(x, x.pour(0, 9, 2, 0, 1), 8);
        Check.none(x, x.pour(0, 9, 3, 0, 1), 2);
        Check.none(x, x.pour(3, 0, 0, 0, 1), 2);
        Check.none(x, x.pour(0, -1, 3, 0, 1), 1);
        Check.none(x, x.pour(0, 0, 1, -1, 1), 1);
        Check.none(x, x.pour(0, 0, 1, 0, -1), 1);
        Check.none(x, x.pour(4, 0, 1, 0, 1), 1);
        Check.none(x, x.pour(0, 0, -1, 0, 1), 1);
        row(x, 1, 0, 13, 14);
    }

    private static void row(CatWitness x, int tray, long... due) {
        for (int i = 0; i < due.length; i++) {
            Check.gave(x, x.read(tray, i), due[i]);
        }
    }

    static void promise9() {
        CatWitness x = new CatWitness();
        for (int i = 1; i <= 45; i++) {
            Check.is(x.feed(0x20202020, 0x20202020, 0x20202020, 0x20202020, 0x20202020), 20 * i);
        }
        Check.is(x.feed(0, 0, 0, 0, 0), -1);
        Check.is(x.feed(0, 0, 0, 0, 0), -1);
        Check.gave(x, x.court(900), 0);
        // The highest byte of each int comes first.
        Check.is(x.feed(0x736d656c, 0x6c20613b, 0xff000000, 0x80000000, -1), 20);
        Check.gave(x, x.court(8), 0);
        Check.gave(x, x.told(0), 1);
    }

    static void promise10() {
        CatWitness x = new CatWitness();
        String text = "smell a; sign b means clean; rule b; person c; person d guilty; reader e slips 1 votes 2; word c clean; word c clean;";
        Check.gave(x, Check.court(x, text), 2);
        int[] counts = {1, 1, 1, 2, 1, 2, 0, 0, 3, 0, 0, 2, 2};
        for (int what = 0; what < counts.length; what++) {
            Check.gave(x, x.told(what), counts[what]);
        }
        // What is behind the first n does not matter, and the tape is empty then.
        Check.feed(x, "person a; !!!");
        Check.gave(x, x.court(10), 1);
        Check.none(x, x.court(1), 1);
        Check.gave(x, x.court(0), 0);
        Check.gave(x, x.told(3), 0);
        // With STATUS 1 the tape stays.
        Check.feed(x, "person a; person b;");
        Check.none(x, x.court(-1), 1);
        Check.none(x, x.court(21), 1);
        Check.gave(x, x.court(19), 2);
        // With 9 the old one stays, and the tape is empty.
        x.sit(1);
        Check.none(x, Check.court(x, "person a; person a;"), 9);
        Check.gave(x, x.told(3), 2);
        Check.gave(x, x.told(6), 1);
        Check.gave(x, x.person(1, 4), 1);
        Check.none(x, x.court(1), 1);
        // A new one: WARM 0, all WAIT, no SITTING, no WEEKS.
        x = Check.with("sign b means clean; rule b; person c;");
        Check.weeks(x, "term;");
        x.term();
        Check.gave(x, Check.court(x, "sign b means clean; rule b; person c;"), 1);
        Check.gave(x, x.told(6), 0);
        Check.gave(x, x.told(7), 0);
        Check.gave(x, x.told(8), 1);
        Check.gave(x, x.person(0, 4), 0);
        Check.none(x, x.live(0), 6);
        courtAnew();
        courtTokens();
        courtFaults();
        courtLimits();
    }

    /** Nothing of an older COURT, taken or not, is left in a new one. */
    private static void courtAnew() {
        CatWitness x = new CatWitness();
        String text = "smell a; smell b; smell c; sign d means guilty; sign e means clean; rule d guilty fed < 7 warm < 7 smells c; rule d;"
            + " rule e; person f guilty fed 7 smells a b c; reader g slips 1 votes 9; word f guilty;";
        for (int i = 0; i < 4; i++) {
            Check.gave(x, Check.court(x, text), 1);
            x.live(0);
            Check.none(x, Check.court(x, text + "!"), 9);
            Check.gave(x, Check.court(x, "sign a means nothing; rule a; person b;"), 1);
            int[] due = {0, 1, 1, 1, 0, 0, 0, 0, 1, 0, 0, 0, 0};
            for (int what = 0; what < due.length; what++) {
                Check.gave(x, x.told(what), due[what]);
            }
            for (int what = 0; what < 5; what++) {
                Check.gave(x, x.person(0, what), 0);
            }
            Check.gave(x, x.rule(0, 1), 0);
            for (int what = 2; what < 5; what++) {
                Check.none(x, x.rule(0, what), 6);
            }
            Check.gave(x, x.sense(0), 0);
        }
    }

    private static void courtTokens() {
        // As long as they go; blanks are 10 and 32, and stand where they are needed.
        CatWitness x = Check.with("smell a;sign b means guilty;rule b fed<0012warm>3smells a;person c fed 7smells a;\n \n");
        Check.gave(x, x.rule(0, 2), 12);
        Check.gave(x, x.rule(0, 3), 3);
        Check.gave(x, x.person(0, 0), 7);
        Check.gave(x, x.person(0, 1), 1);
        Check.with("person abcdefgh;person fedx;person persons;person a\n;");
        Check.courtFault("smella;", 2, 0);
        Check.courtFault("person a\t;", 1, 8);
        Check.courtFault("person A;", 1, 7);
        Check.courtFault("person a fed -1;", 1, 13);
        Check.courtFault("person a fed 12345;", 1, 13);
        Check.courtFault("person a fed 00001;", 1, 13);
        Check.courtFault("person a\u00e9;", 1, 8);
        Check.courtFault("person a:", 1, 8);
        Check.courtFault("person a\0;", 1, 8);
    }

    private static void courtFaults() {
        Check.courtFault("person", 2, 6);
        Check.courtFault("person ", 2, 7);
        Check.courtFault("person a", 2, 8);
        Check.courtFault("person a \n", 2, 10);
        Check.courtFault(";", 2, 0);
        Check.courtFault("sit a;", 2, 0);
        Check.courtFault("person a; b", 2, 10);
        Check.courtFault("person 1;", 2, 7);
        Check.courtFault("person abcdefghi;", 2, 7);
        Check.courtFault("abcdefghi a;", 2, 0);
        for (String taken : ("smell sign means guilty clean nothing rule fed warm smells person reader slips votes word sit"
            + " feed rub wash night term any when shows held free loop end stop").split(" ")) {
            Check.courtFault("person " + taken + ";", 2, 7);
            if (!"smell sign rule person reader word".contains(taken)) {
                Check.courtFault(taken + " a;", 2, 0);
            }
        }
        Check.courtFault("sign a;", 2, 6);
        Check.courtFault("sign a means;", 2, 12);
        Check.courtFault("sign a means b;", 2, 13);
        Check.courtFault("sign a means clean guilty;", 2, 19);
        String ahead = "smell s; sign a means clean; person p; reader r slips 1 votes 1; ";
        int at = ahead.length();
        Check.courtFault(ahead + "rule a nothing;", 2, at + 7);
        Check.courtFault(ahead + "rule a fed 3;", 2, at + 11);
        Check.courtFault(ahead + "rule a fed < ;", 2, at + 13);
        Check.courtFault(ahead + "rule a warm < 3 fed < 3;", 2, at + 16);
        Check.courtFault(ahead + "rule a smells;", 2, at + 13);
        Check.courtFault(ahead + "rule a smells s s;", 2, at + 16);
        Check.courtFault(ahead + "person q clean;", 2, at + 9);
        Check.courtFault(ahead + "person q fed 1 guilty;", 2, at + 15);
        Check.courtFault(ahead + "person q smells abcdefghi;", 2, at + 16);
        Check.courtFault(ahead + "reader q votes 1;", 2, at + 9);
        Check.courtFault(ahead + "word p;", 2, at + 6);
        Check.courtFault(ahead + "word p nothing;", 2, at + 7);
        // 3: taken, or no such one told ahead.
        for (String taken : "s a p r".split(" ")) {
            Check.courtFault(ahead + "smell " + taken + ";", 3, at + 6);
            Check.courtFault(ahead + "sign " + taken + " means clean;", 3, at + 5);
            Check.courtFault(ahead + "person " + taken + ";", 3, at + 7);
            Check.courtFault(ahead + "reader " + taken + " slips 1 votes 1;", 3, at + 7);
        }
        for (String other : "s p r q".split(" ")) {
            Check.courtFault(ahead + "rule " + other + ";", 3, at + 5);
        }
        for (String other : "a p r q".split(" ")) {
            Check.courtFault(ahead + "rule a smells " + other + ";", 3, at + 14);
            Check.courtFault(ahead + "person q smells " + other + ";", 3, at + 16);
        }
        for (String other : "s a r q".split(" ")) {
            Check.courtFault(ahead + "word " + other + " clean;", 3, at + 5);
        }
        Check.courtFault("rule a; sign a means clean;", 3, 5);
        // 4
        Check.courtFault(ahead + "rule a fed < 100;", 4, at + 13);
        Check.courtFault(ahead + "rule a warm = 10;", 4, at + 14);
        Check.courtFault(ahead + "person q fed 100;", 4, at + 13);
        Check.courtFault(ahead + "reader q slips 17 votes 1;", 4, at + 15);
        Check.courtFault(ahead + "reader q slips 16 votes 0;", 4, at + 24);
        Check.courtFault(ahead + "reader q slips 16 votes 10;", 4, at + 24);
        Check.with(ahead + "rule a fed < 99 warm = 9; rule a fed > 0 warm > 0; person q fed 99; person t fed 0;"
            + " reader u slips 0 votes 9; reader v slips 16 votes 1;");
        // 5
        Check.courtFault(ahead + "person q smells s s;", 5, at + 18);
        // The first along the text, whatever comes behind.
        Check.courtFault("person a; person a; !", 3, 17);
        Check.courtFault("person ! a", 1, 7);
    }

    private static void courtLimits() {
        String five = "smell a;smell b;smell c;smell d;smell e;";
        Check.with(five);
        Check.courtFault(five + "smell a;", 6, five.length());
        Check.courtFault(five + " smell", 6, five.length() + 1);
        StringBuilder signs = new StringBuilder();
        StringBuilder people = new StringBuilder();
        StringBuilder readers = new StringBuilder();
        for (char c = 'a'; c <= 'f'; c++) {
            signs.append("sign ").append(c).append(" means clean;");
            people.append("person p").append(c).append(";");
            readers.append("reader r").append(c).append(" slips 1 votes 1;");
        }
        Check.courtFault(signs + "sign g means clean;", 6, signs.length());
        Check.courtFault(people + "person g;", 6, people.length());
        Check.courtFault(readers + "reader g slips 1 votes 1;", 6, readers.length());
        String eight = "sign a means clean;" + "rule a;".repeat(8);
        Check.courtFault(eight + "rule a;", 6, eight.length());
        String ten = "person a;" + "word a clean;".repeat(10);
        Check.courtFault(ten + "word a clean;", 6, ten.length());
        CatWitness x = Check.with(signs.toString() + people + readers + "rule a;".repeat(8) + "word pa clean;".repeat(10));
        int[] counts = {0, 6, 8, 6, 6, 10};
        for (int what = 0; what < counts.length; what++) {
            Check.gave(x, x.told(what), counts[what]);
        }
    }

    static void promise11() {
        String court = "smell s; sign c means clean; person p; person q; reader r slips 1 votes 1;";
        CatWitness x = Check.with(court);
        Check.gave(x, Check.weeks(x, "sit p; term; feed p 9; rub p s; wash q s; night; any; when shows p c; end;"
            + " when held p; end; when free q; stop; end; when warm < 3; end; loop 99; loop 1; any; end; end;"), 15);
        Check.gave(x, Check.weeks(x, ""), 0);
        Check.gave(x, x.live(1), 0);
        // The old ones stay with 9; the tape is empty then.
        Check.gave(x, Check.weeks(x, "any; any;"), 2);
        Check.none(x, Check.weeks(x, "any; any"), 9);
        Check.none(x, x.weeks(1), 1);
        Check.gave(x, x.live(1), 2);
        // STATUS 1: the tape stays.
        Check.feed(x, "any;".repeat(30) + " ".repeat(190));
        Check.none(x, x.weeks(-1), 1);
        Check.none(x, x.weeks(301), 1);
        Check.none(x, x.weeks(321), 1);
        Check.gave(x, x.weeks(300), 30);
        Check.none(x, x.weeks(1), 1);
        Check.gave(x, x.live(1), 30);
        weeksFaults(court);
    }

    private static void weeksFaults(String court) {
        for (String no : ("smell sign means guilty clean nothing rule fed warm smells person reader slips votes word shows held free"
            + " end steps abcdefghij").split(" ")) {
            Check.weeksFault(court, "any; " + no + " p;", 2, 5);
        }
        Check.weeksFault(court, "sit", 2, 3);
        Check.weeksFault(court, "person p;", 2, 0);
        Check.weeksFault(court, "sit sit;", 2, 4);
        Check.weeksFault(court, "sit 1;", 2, 4);
        Check.weeksFault(court, "sit pppppppppp;", 2, 4);
        Check.weeksFault(court, "sit p", 2, 5);
        Check.weeksFault(court, "feed p;", 2, 6);
        Check.weeksFault(court, "term p;", 2, 5);
        Check.weeksFault(court, "when p;", 2, 5);
        Check.weeksFault(court, "when shows p;", 2, 12);
        Check.weeksFault(court, "when held p c;", 2, 12);
        Check.weeksFault(court, "when warm 3;", 2, 10);
        Check.weeksFault(court, "loop p;", 2, 5);
        Check.weeksFault(court, "loop 2; end", 2, 11);
        Check.weeksFault(court, "loop 2;", 2, 7);
        Check.weeksFault(court, "loop 2; any;  ", 2, 14);
        Check.weeksFault(court, "end;", 2, 0);
        Check.weeksFault(court, "loop 2; end; end;", 2, 13);
        Check.weeksFault(court, "any !;", 1, 4);
        Check.weeksFault(court, "loop 00002; end;", 1, 5);
        for (String other : "s c r z".split(" ")) {
            Check.weeksFault(court, "sit " + other + ";", 3, 4);
            Check.weeksFault(court, "feed " + other + " 3;", 3, 5);
            Check.weeksFault(court, "when held " + other + "; end;", 3, 10);
            Check.weeksFault(court, "when free " + other + "; end;", 3, 10);
            Check.weeksFault(court, "when shows " + other + " c; end;", 3, 11);
            Check.weeksFault(court, "rub " + other + " s;", 3, 4);
        }
        for (String other : "p c r z".split(" ")) {
            Check.weeksFault(court, "rub p " + other + ";", 3, 6);
            Check.weeksFault(court, "wash p " + other + ";", 3, 7);
        }
        for (String other : "p s r z".split(" ")) {
            Check.weeksFault(court, "when shows p " + other + "; end;", 3, 13);
        }
        Check.weeksFault(court, "feed p 0;", 4, 7);
        Check.weeksFault(court, "feed p 10;", 4, 7);
        Check.weeksFault(court, "loop 0; end;", 4, 5);
        Check.weeksFault(court, "loop 100; end;", 4, 5);
        Check.weeksFault(court, "when warm = 10; end;", 4, 12);
        String full = "any;".repeat(30);
        Check.weeksFault(court, full + "any;", 6, 120);
        Check.weeksFault(court, full + "zz", 2, 120);
        Check.weeksFault(court, "loop 2;" + "any;".repeat(29) + "end; stop", 6, 128);
        String three = "loop 2; when held p; loop 3; ";
        Check.weeksFault(court, three + "loop 4; end; end; end; end;", 7, three.length());
        Check.weeksFault(court, three + "when x", 7, three.length());
        String both = three + "any;".repeat(27);
        Check.weeksFault(court, both + "loop 4;", 6, both.length());
        CatWitness x = Check.with(court);
        Check.gave(x, Check.weeks(x, three + "end; end; when free q; loop 9; end; end; end;"), 5);
        Check.gave(x, Check.weeks(x, "loop 2;" + "any;".repeat(29) + "end;"), 30);
    }

    static void promise12() {
        CatWitness x = new CatWitness();
        Check.is(x.fault(0), -1);
        Check.is(x.fault(1), -1);
        Check.none(x, x.court(1), 1);
        Check.is(x.fault(0), -1);
        Check.gave(x, x.court(0), 0);
        Check.is(x.fault(0), 0);
        Check.is(x.fault(1), -1);
        Check.none(x, Check.court(x, "person a fed 100;"), 9);
        Check.is(x.fault(0), 4);
        Check.is(x.fault(1), 13);
        Check.is(x.fault(2), -1);
        Check.is(x.fault(-1), -1);
        // STATUS 1 tells nothing of it.
        Check.none(x, x.weeks(1), 1);
        Check.is(x.fault(0), 4);
        Check.is(x.fault(1), 13);
        Check.none(x, Check.weeks(x, "any; end;"), 9);
        Check.is(x.fault(0), 2);
        Check.is(x.fault(1), 5);
        Check.gave(x, Check.weeks(x, "any;"), 1);
        Check.is(x.fault(0), 0);
        Check.is(x.fault(1), -1);
    }

    static void promise13() {
        CatWitness x = Check.with("smell a; smell b; sign g means guilty; sign c means clean; sign n means nothing; rule g guilty;"
            + " rule c warm = 1; person p; person q; person r guilty; reader t slips 0 votes 4; reader u slips 1 votes 3;"
            + " word p clean; word p guilty; word q clean; word q clean;");
        int[] due = {2, 3, 2, 3, 2, 4, 0, 0, 7, 0, 0, 4, 7};
        for (int what = 0; what < due.length; what++) {
            Check.gave(x, x.told(what), due[what]);
        }
        Check.none(x, x.told(-1), 1);
        Check.none(x, x.told(13), 1);
        // p: nothing, then q at WARM 1: clean, then r: guilty.
        x.term();
        int[] then = {2, 3, 2, 3, 2, 4, 3, 3, 1, 2, 4, 4, 7};
        for (int what = 0; what < then.length; what++) {
            Check.gave(x, x.told(what), then[what]);
        }
    }

    static void promise14() {
        CatWitness x = Check.with("sign g means guilty; sign c means clean; sign n means nothing;");
        Check.gave(x, x.sense(0), 1);
        Check.gave(x, x.sense(1), 2);
        Check.gave(x, x.sense(2), 0);
        Check.none(x, x.sense(3), 1);
        Check.none(x, x.sense(-1), 1);
    }

    static void promise15() {
        CatWitness x = Check.with("smell a; smell b; sign g means guilty; sign c means clean; rule c guilty fed < 0 warm > 9 smells b;"
            + " rule g clean; rule g fed = 99; rule g warm = 0; rule c smells a;");
        int[][] due = {{1, 1, 0, 9, 1}, {0, 2, -1, -1, -1}, {0, 0, 99, -1, -1}, {0, 0, -1, 0, -1}, {1, 0, -1, -1, 0}};
        for (int rule = 0; rule < due.length; rule++) {
            for (int what = 0; what < 5; what++) {
                if (due[rule][what] < 0) {
                    Check.none(x, x.rule(rule, what), 6);
                } else {
                    Check.gave(x, x.rule(rule, what), due[rule][what]);
                }
            }
        }
        Check.none(x, x.rule(5, 0), 1);
        Check.none(x, x.rule(-1, 0), 1);
        Check.none(x, x.rule(1, 5), 1);
        Check.none(x, x.rule(1, -1), 1);
    }

    static void promise16() {
        CatWitness x = Check.with("smell a; smell b; smell c; sign g means guilty; sign f means clean; rule f guilty; rule g fed > 5;"
            + " person p; person q guilty fed 3 smells c a; person r fed 99 smells; person t smells b;");
        int[][] due = {{0, 0, 0, 0, 0}, {3, 5, 0, 1, 0}, {99, 0, 0, 0, 0}, {0, 2, 0, 0, 0}};
        for (int p = 0; p < due.length; p++) {
            for (int what = 0; what < 5; what++) {
                Check.gave(x, x.person(p, what), due[p][what]);
            }
        }
        x.term();
        x.sit(2);
        int[] fates = {0, 1, 2, 0};
        int[] sittings = {1, 1, 2, 1};
        for (int p = 0; p < fates.length; p++) {
            Check.gave(x, x.person(p, 2), fates[p]);
            Check.gave(x, x.person(p, 4), sittings[p]);
        }
        Check.none(x, x.person(4, 0), 1);
        Check.none(x, x.person(-1, 0), 1);
        Check.none(x, x.person(0, 5), 1);
        Check.none(x, x.person(0, -1), 1);
    }

    static void promise17() {
        CatWitness x = Check.with("reader a slips 16 votes 9; reader b slips 0 votes 1;");
        Check.gave(x, x.reader(0, 0), 16);
        Check.gave(x, x.reader(0, 1), 9);
        Check.gave(x, x.reader(1, 0), 0);
        Check.gave(x, x.reader(1, 1), 1);
        Check.none(x, x.reader(2, 0), 1);
        Check.none(x, x.reader(-1, 0), 1);
        Check.none(x, x.reader(0, 2), 1);
        Check.none(x, x.reader(0, -1), 1);
    }

    static void promise18() {
        CatWitness x = Check.with("person a; person b; word b clean; word a guilty; word b clean;");
        int[][] due = {{1, 2}, {0, 1}, {1, 2}};
        for (int w = 0; w < due.length; w++) {
            Check.gave(x, x.word(w, 0), due[w][0]);
            Check.gave(x, x.word(w, 1), due[w][1]);
        }
        Check.none(x, x.word(3, 0), 1);
        Check.none(x, x.word(-1, 0), 1);
        Check.none(x, x.word(0, 2), 1);
        Check.none(x, x.word(0, -1), 1);
    }
}
