import java.util.ArrayList;
import java.util.List;

/**
 * The boundary cases that "Terms" and paragraph 4 of the document name: TOKENS, COURTS, WEEKS and
 * their FAULTS. Each method tests one sentence, or one clause of it, which stands above it.
 */
public final class BoundaryTextTest {
    private static final String AHEAD = "smell s; sign c means clean; person p; reader r slips 1 votes 1; ";
    private static final int AT = AHEAD.length();
    private static final String[] RESERVED = ("smell sign means guilty clean nothing rule fed warm smells person reader slips votes"
        + " word sit feed rub wash night term any when shows held free loop end stop").split(" ");

    public static void main(String[] args) {
        Check.bounds(BoundaryTextTest.class);
    }

    // ---- TOKENS.

    /** "A COURT is a TEXT of at most 900 bytes." */
    static void boundCourtOf900Bytes() {
        CatWitness x = new CatWitness();
        Check.gave(x, Check.court(x, "person a" + " ".repeat(891) + ";"), 1);
        Check.gave(x, Check.court(x, " ".repeat(891) + "person a;"), 1);
        Check.courtFault("person a" + " ".repeat(892), 2, 900);
        Check.courtFault(" ".repeat(899) + "!", 1, 899);
        Check.courtFault(" ".repeat(896) + "1234", 2, 896);
    }

    /** "TOKENS, as long as they go": a WORD, a NUMBER goes on to its last letter, digit. */
    static void boundTokensAsLongAsTheyGo() {
        Check.courtFault("personp;", 2, 0);
        Check.courtFault("person p fed12 3;", 2, 15);
        Check.courtFault("person p fed 1 2;", 2, 15);
        CatWitness x = Check.with("person p fed12;person q fed 3;");
        Check.gave(x, x.person(0, 0), 12);
        Check.gave(x, x.person(1, 0), 3);
        // Where one can go on no more, the next one begins, without a blank, too.
        x = Check.with("smell a;sign b means guilty;rule b fed<12warm>3smells a;person c fed 7smells a;");
        Check.gave(x, x.rule(0, 2), 12);
        Check.gave(x, x.rule(0, 3), 3);
        Check.gave(x, x.rule(0, 4), 0);
        Check.gave(x, x.person(0, 0), 7);
        // Signs are of one byte each.
        Check.courtFault(AHEAD + "rule c fed <= 3;", 2, AT + 12);
        Check.courtFault("person p;;", 2, 9);
    }

    /** "The first n bytes of the tape": a TOKEN goes on no further than these, whatever stands behind them. */
    static void boundTokensEndWithTheText() {
        String[] texts = {"person ab;", "person a ;", "person a;b", "person a fed 12;"};
        int[] ns = {8, 8, 7, 14};
        int[] places = {8, 8, 7, 14};
        for (int i = 0; i < texts.length; i++) {
            CatWitness x = new CatWitness();
            Check.feed(x, texts[i]);
            Check.none(x, x.court(ns[i]), 9);
            Check.is(x.fault(0), 2);
            Check.is(x.fault(1), places[i]);
        }
        // What stands behind would be a FAULT.
        CatWitness x = new CatWitness();
        Check.feed(x, "person a;zz");
        Check.gave(x, x.court(9), 1);
        Check.feed(x, "any;zz");
        Check.gave(x, x.weeks(4), 1);
        Check.feed(x, "loop 23;end;");
        Check.none(x, x.weeks(6), 9);
        Check.is(x.fault(0), 2);
        Check.is(x.fault(1), 6);
        Check.feed(x, "any ;");
        Check.none(x, x.weeks(3), 9);
        Check.is(x.fault(1), 3);
    }

    /** "between them blanks (10, 32): WORDS (small letters), NUMBERS, SIGNS ; < > =": of all bytes no other begins one. */
    static void boundBytesThatBeginATokenOrNone() {
        for (int b = 0; b < 256; b++) {
            String text = "person p" + (char) b;
            if (b == ';') {
                CatWitness x = Check.with(text);
                Check.gave(x, x.told(3), 1);
            } else if (b == 10 || b == 32 || b >= 'a' && b <= 'z') {
                Check.courtFault(text, 2, 9);
            } else if (b >= '0' && b <= '9' || b == '<' || b == '>' || b == '=') {
                Check.courtFault(text, 2, 8);
            } else {
                Check.courtFault(text, 1, 8);
            }
        }
        CatWitness x = Check.with("\n person\n p\n\n;  \n");
        Check.gave(x, x.told(3), 1);
    }

    /** "NUMBERS (1 to 4 digits)"; FAULT "1 ... (a NUMBER of 5 digits and more: at its first)". */
    static void boundNumbersOf1To4Digits() {
        String[] good = {"0", "00", "000", "0000", "7", "07", "007", "0007", "0099"};
        for (String number : good) {
            CatWitness x = Check.with("person p fed " + number + ";");
            Check.gave(x, x.person(0, 0), Integer.parseInt(number));
        }
        Check.courtFault("person p fed 0100;", 4, 13);
        Check.courtFault("person p fed 9999;", 4, 13);
        // Those that a wrap-around would make 0 or 1, too.
        for (String number : "00000 00007 10000 99999 0000099 4294967296 4294967297 18446744073709551616".split(" ")) {
            Check.courtFault("person p fed " + number + ";", 1, 13);
        }
        Check.courtFault("person p fed " + "0".repeat(800) + ";", 1, 13);
    }

    /** "NAME: a WORD of 1 to 8 letters"; FAULT "2 ... (a WORD of 9 letters and more where a NAME must stand)". */
    static void boundNamesOf1To8Letters() {
        CatWitness x = Check.with("person a;person z;person aaaaaaaa;person zzzzzzzz;person aaaaaaaz;person zaaaaaaa;word zaaaaaaa clean;"
            + "word aaaaaaaa clean;word zzzzzzzz clean;word aaaaaaaz clean;word z clean;word a clean;");
        int[] due = {5, 2, 3, 4, 1, 0};
        for (int w = 0; w < due.length; w++) {
            Check.gave(x, x.word(w, 0), due[w]);
        }
        Check.courtFault("person aaaaaaaaa;", 2, 7);
        Check.courtFault("person " + "z".repeat(893), 2, 7);
        Check.courtFault(AHEAD + "rule ccccccccc;", 2, AT + 5);
        Check.courtFault(AHEAD + "rule c smells sssssssss;", 2, AT + 14);
        Check.courtFault(AHEAD + "person q smells s sssssssss;", 2, AT + 18);
        Check.courtFault(AHEAD + "word ppppppppp clean;", 2, AT + 5);
        // Nor can it stand where a NUMBER must, or another WORD.
        Check.courtFault("person p fed ppppppppp;", 2, 13);
        Check.courtFault("reader p slips 1 votes ppppppppp;", 2, 23);
        Check.courtFault("sign p meansmeans clean;", 2, 7);
        Check.weeksFault(AHEAD, "loop ppppppppp;", 2, 5);
        Check.weeksFault(AHEAD, "when shownshows p c;", 2, 5);
        Check.weeksFault(AHEAD, "nightnight;", 2, 0);
        Check.weeksFault(AHEAD, "sit ppppppppp;", 2, 4);
        Check.weeksFault(AHEAD, "rub p sssssssss;", 2, 6);
        Check.weeksFault(AHEAD, "when shows p ccccccccc; end;", 2, 13);
    }

    /** "NAME: a WORD ... that is none of smell, sign, .. stop": each of these, and what is a letter more or less. */
    static void boundNamesAreNoneOfTheReserved() {
        java.util.Set<String> reserved = java.util.Set.of(RESERVED);
        Check.is(reserved.size(), 29);
        for (String word : RESERVED) {
            Check.courtFault("person " + word + ";", 2, 7);
            Check.courtFault(AHEAD + "person q smells " + word + " s;", 2, AT + 16);
            Check.weeksFault(AHEAD, "sit " + word + ";", 2, 4);
            for (String near : new String[] {word + "x", "x" + word, word.substring(1), word.substring(0, word.length() - 1)}) {
                if (!reserved.contains(near)) {
                    CatWitness x = Check.with("person " + near + ";");
                    Check.gave(x, x.told(3), 1);
                }
            }
        }
    }

    /** "One NAME is of one thing alone": FAULT "3 a new NAME that is taken", by whichever kind. */
    static void boundNamesOfOneThingAlone() {
        String[] kinds = {"smell n;", "sign n means clean;", "person n;", "reader n slips 1 votes 1;"};
        for (String first : kinds) {
            for (String second : kinds) {
                Check.courtFault(first + second, 3, first.length() + second.indexOf(" n") + 1);
            }
        }
        // A COURT that is taken, or not, takes no NAME from the next.
        CatWitness x = Check.with("smell n; person m;");
        Check.none(x, Check.court(x, "person n; person m; person m;"), 9);
        Check.gave(x, Check.court(x, "person n; smell m;"), 1);
    }

    // ---- how many, and which numbers.

    /** "SMELLS, at most 5. CUES, at most 6. RULES, at most 8. PEOPLE, READERS, at most 6. WORDS, at most 10"; FAULT 6 "(at that WORD)". */
    static void boundHowManyOfAKind() {
        String ahead = "sign z means clean; person y; ";
        String[] parts = {"smell a#;", "sign b# means guilty;", "rule z;", "person c#;", "reader d# slips 1 votes 1;", "word y clean;"};
        int[] most = {5, 5, 8, 5, 6, 10};
        int[] told = {5, 6, 8, 6, 6, 10};
        for (int kind = 0; kind < parts.length; kind++) {
            String text = ahead;
            for (int i = 0; i < most[kind]; i++) {
                text += parts[kind].replace('#', (char) ('a' + i));
            }
            CatWitness x = Check.with(text);
            Check.gave(x, x.told(kind), told[kind]);
            String more = parts[kind].replace('#', 'z');
            Check.courtFault(text + more, 6, text.length());
            // At that WORD already, whatever stands behind it.
            Check.courtFault(text + " " + more.substring(0, more.indexOf(' ')), 6, text.length() + 1);
            Check.courtFault(text + more.substring(0, more.indexOf(' ')) + "!", 6, text.length());
            // One of another kind in between makes no room.
            String other = kind == 0 ? "sign e means clean; " : "smell e; ";
            Check.courtFault(text + other + more, 6, text.length() + other.length());
        }
    }

    /** All as many as there can be stand in one COURT. */
    static void boundAllFull() {
        CatWitness x = Check.with(full());
        int[] due = {5, 6, 8, 6, 6, 10, 0, 0, 63, 0, 0, 63, 54};
        for (int what = 0; what < due.length; what++) {
            Check.gave(x, x.told(what), due[what]);
        }
        for (int p = 0; p < 6; p++) {
            Check.gave(x, x.person(p, 0), 99);
            Check.gave(x, x.person(p, 1), 31);
        }
        Check.gave(x, x.rule(7, 4), 4);
        Check.gave(x, x.word(9, 0), 5);
        Check.gave(x, x.word(9, 1), 1);
        Check.gave(x, x.reader(5, 0), 16);
        Check.gave(x, x.reader(5, 1), 9);
        for (int cue = 0; cue < 6; cue++) {
            Check.gave(x, x.sense(cue), 2 - cue % 2);
        }
        Check.gave(x, x.reread(5, 0));
        Check.gave(x, x.sense(5), 0);
    }

    private static String full() {
        StringBuilder text = new StringBuilder("smell a;smell b;smell c;smell d;smell e;");
        for (char i = '0'; i < '6'; i++) {
            char c = (char) (i - '0' + 'k');
            text.append("sign c").append(c).append(i % 2 == 0 ? " means clean;person p" : " means guilty;person p").append(c).append(" guilty fed 99smells a b c d e;reader r")
                .append(c).append(" slips 16votes 9;");
        }
        return text + "rule ck smells e;".repeat(8) + "word pp guilty;".repeat(10);
    }

    /** "FED against a NUMBER (0 to 99)", "FED (0 to 99)", "WARM ... (0 to 9)", "SLIP (0 to 16)", "VOTES (1 to 9)"; FAULT "4 a NUMBER that can't be". */
    static void boundNumbersOfACourt() {
        number(AHEAD + "rule c fed < ", ";", 0, 99);
        number(AHEAD + "rule c fed > ", ";", 0, 99);
        number(AHEAD + "rule c fed = ", ";", 0, 99);
        number(AHEAD + "rule c warm < ", ";", 0, 9);
        number(AHEAD + "rule c warm > ", ";", 0, 9);
        number(AHEAD + "rule c warm = ", ";", 0, 9);
        number(AHEAD + "person q guilty fed ", " smells s;", 0, 99);
        number(AHEAD + "reader q slips ", " votes 1;", 0, 16);
        number(AHEAD + "reader q slips 1 votes ", ";", 1, 9);
    }

    private static void number(String ahead, String behind, int least, int most) {
        for (int n = 0; n <= most + 1; n++) {
            if (n >= least && n <= most) {
                CatWitness x = Check.with(ahead + n + behind);
                Check.is(x.fault(0), 0);
            } else {
                Check.courtFault(ahead + n + behind, 4, ahead.length());
            }
        }
        Check.courtFault(ahead + "9999" + behind, 4, ahead.length());
        Check.courtFault(ahead + "99999" + behind, 1, ahead.length());
        Check.courtFault(ahead + behind, 2, ahead.length() + (behind.startsWith(" ") ? 1 : 0));
    }

    /** "PEOPLE, at most 6: GUILTY, or not; FED (0 to 99; 0 without); a set of SMELLS". */
    static void boundPersonWithoutAnything() {
        CatWitness x = Check.with("smell s; person p; person q guilty; person r fed 5; person t smells; person u smells s; person v guilty fed 0 smells s;");
        int[][] due = {{0, 0, 0, 0, 0}, {0, 0, 0, 1, 0}, {5, 0, 0, 0, 0}, {0, 0, 0, 0, 0}, {0, 1, 0, 0, 0}, {0, 1, 0, 1, 0}};
        for (int p = 0; p < due.length; p++) {
            for (int what = 0; what < 5; what++) {
                Check.gave(x, x.person(p, what), due[p][what]);
            }
        }
        // In no other order, and none twice.
        Check.courtFault("person p fed 1 guilty;", 2, 15);
        Check.courtFault("person p guilty guilty;", 2, 16);
        Check.courtFault("person p fed 1 fed 1;", 2, 15);
        Check.courtFault("smell s; person p smells s fed 1;", 2, 27);
        Check.courtFault("smell s; person p smells s smells s;", 2, 27);
        Check.courtFault("person p clean;", 2, 9);
    }

    /** "rule NAME [GUILT] [fed COMPARES NUMBER] [warm COMPARES NUMBER] [smells NAME]": each perhaps, in that order. */
    static void boundRuleWithoutAnything() {
        String[] guilts = {"", " guilty", " clean"};
        for (int set = 0; set < 24; set++) {
            int guilt = set % 3;
            boolean fed = (set / 3 & 1) == 1;
            boolean warm = (set / 6 & 1) == 1;
            boolean smells = (set / 12 & 1) == 1;
            CatWitness x = Check.with(AHEAD + "rule c" + guilts[guilt] + (fed ? " fed < 0" : "") + (warm ? " warm > 0" : "")
                + (smells ? " smells s" : "") + ";");
            Check.gave(x, x.rule(0, 0), 0);
            Check.gave(x, x.rule(0, 1), guilt);
            boolean[] has = {fed, warm, smells};
            for (int what = 2; what < 5; what++) {
                if (has[what - 2]) {
                    Check.gave(x, x.rule(0, what), 0);
                } else {
                    Check.none(x, x.rule(0, what), 6);
                }
            }
        }
        Check.courtFault(AHEAD + "rule c fed = 1 guilty;", 2, AT + 15);
        Check.courtFault(AHEAD + "rule c warm = 1 fed = 1;", 2, AT + 16);
        Check.courtFault(AHEAD + "rule c smells s warm = 1;", 2, AT + 16);
        Check.courtFault(AHEAD + "rule c guilty clean;", 2, AT + 14);
        Check.courtFault(AHEAD + "rule c smells;", 2, AT + 13);
        Check.courtFault(AHEAD + "rule c nothing;", 2, AT + 7);
    }

    /** "sign NAME means SENSE": guilty or clean or nothing, and without fail. */
    static void boundSignMeansOneOfThree() {
        CatWitness x = Check.with("sign a means guilty; sign b means clean; sign c means nothing;");
        Check.gave(x, x.sense(0), 1);
        Check.gave(x, x.sense(1), 2);
        Check.gave(x, x.sense(2), 0);
        Check.courtFault("sign a;", 2, 6);
        Check.courtFault("sign a clean;", 2, 7);
        Check.courtFault("sign a means;", 2, 12);
        Check.courtFault("sign a means means clean;", 2, 13);
        Check.courtFault("sign a means clean clean;", 2, 19);
        Check.courtFault("reader a votes 1;", 2, 9);
        Check.courtFault("reader a slips 1;", 2, 16);
        Check.courtFault("reader a 1 votes 1;", 2, 9);
    }

    /** "a set of SMELLS (each once)"; FAULT "5 a SMELL twice behind one person (at that NAME)". */
    static void boundSmellsEachOnce() {
        String five = "smell a; smell b; smell c; smell d; smell e; ";
        CatWitness x = Check.with(five + "person p smells e c a d b; person q smells e;");
        Check.gave(x, x.person(0, 1), 31);
        Check.gave(x, x.person(1, 1), 16);
        Check.courtFault(five + "person p smells a a;", 5, five.length() + 18);
        Check.courtFault(five + "person p smells e c a d b c;", 5, five.length() + 26);
        Check.courtFault(five + "person p smells a b c d e e f;", 5, five.length() + 26);
        Check.courtFault(five + "person p smells a f a;", 3, five.length() + 18);
        Check.courtFault(five + "person p smells a b a f;", 5, five.length() + 20);
        // Behind another person it may stand again.
        Check.with(five + "person p smells a; person q smells a;");
    }

    /** "WORDS ... (told again: one more)". */
    static void boundWordsToldAgain() {
        CatWitness x = Check.with("person p; word p clean; word p clean; word p guilty; word p clean;");
        Check.gave(x, x.told(5), 4);
        int[] due = {2, 2, 1, 2};
        for (int w = 0; w < due.length; w++) {
            Check.gave(x, x.word(w, 0), 0);
            Check.gave(x, x.word(w, 1), due[w]);
        }
        Check.none(x, x.word(4, 0), 1);
    }

    /** "All are numbered as they stand; what a PART names must be told ahead." */
    static void boundToldAhead() {
        CatWitness x = Check.with("person p; sign c means clean; word p clean; rule c; smell s; person q smells s; sign d means guilty; rule d smells s;"
            + " smell t; word q guilty; person u smells t s; rule c smells t;");
        Check.gave(x, x.person(1, 1), 1);
        Check.gave(x, x.person(2, 1), 3);
        Check.gave(x, x.word(0, 0), 0);
        Check.gave(x, x.word(1, 0), 1);
        Check.gave(x, x.rule(0, 0), 0);
        Check.gave(x, x.rule(1, 0), 1);
        Check.gave(x, x.rule(1, 4), 0);
        Check.gave(x, x.rule(2, 4), 1);
        Check.courtFault("rule c; sign c means clean;", 3, 5);
        Check.courtFault("word p clean; person p;", 3, 5);
        Check.courtFault("person p smells s; smell s;", 3, 16);
        Check.courtFault("sign c means clean; rule c smells s; smell s;", 3, 34);
        // One that is of another kind is none such; nor is one of an older COURT.
        Check.courtFault(AHEAD + "rule s;", 3, AT + 5);
        Check.courtFault(AHEAD + "rule c smells c;", 3, AT + 14);
        Check.courtFault(AHEAD + "word r clean;", 3, AT + 5);
        Check.courtFault(AHEAD + "person q smells q;", 3, AT + 16);
        x = Check.with(AHEAD);
        Check.none(x, Check.court(x, "word p clean;"), 9);
        Check.is(x.fault(0), 3);
        Check.gave(x, Check.court(x, ""), 0);
        Check.none(x, Check.court(x, "rule c;"), 9);
        Check.is(x.fault(0), 3);
    }

    // ---- FAULTS.

    /** "FAULTS, the first along the text": whatever kinds stand behind it. */
    static void boundFirstAlongTheText() {
        String[] faulty = {"! ", "sit ", "smell s; ", "reader t slips 17 votes 1; ", "person t smells s s; "};
        int[] kinds = {1, 2, 3, 4, 5};
        int[] at = {0, 0, 6, 15, 18};
        for (int i = 0; i < faulty.length; i++) {
            for (String behind : faulty) {
                Check.courtFault(AHEAD + faulty[i] + behind, kinds[i], AT + at[i]);
            }
        }
        String five = "smell a; smell b; smell d; smell e; ";
        Check.courtFault(AHEAD + five + "smell s; !", 6, AT + five.length());
    }

    /** "(of one TOKEN the least kind)". */
    static void boundLeastKindOfOneToken() {
        // 1 ahead of 2, of 4.
        Check.courtFault("person 12345;", 1, 7);
        Check.courtFault("12345", 1, 0);
        Check.courtFault("person p fed 12345;", 1, 13);
        Check.courtFault("person p fed !;", 1, 13);
        Check.courtFault(AHEAD + "person q smells s 12345;", 1, AT + 18);
        // 2 ahead of 3, of 4.
        Check.courtFault(AHEAD + "person smells;", 2, AT + 7);
        Check.courtFault("person 100;", 2, 7);
        Check.courtFault("person p fed 1 100;", 2, 15);
        // 6 ahead of 7.
        Check.weeksFault(AHEAD, "loop 2;when held p;loop 3;" + "any;".repeat(27) + "loop 4;", 6, 26 + 4 * 27);
        Check.weeksFault(AHEAD, "any !", 1, 4);
        Check.weeksFault(AHEAD, "feed p 12345;", 1, 7);
        Check.weeksFault(AHEAD, "sit 12345;", 1, 4);
    }

    /** What can stand behind each beginning of a PART; NAME: any WORD of 1 to 8 letters that is none of those told. */
    private static final String[][] IN_A_COURT = {
        {"", "smell sign rule person reader word"},
        {"smell", "NAME"}, {"smell zz", ";"},
        {"sign", "NAME"}, {"sign zz", "means"}, {"sign zz means", "guilty clean nothing"}, {"sign zz means nothing", ";"},
        {"rule", "NAME"}, {"rule c", "guilty clean fed warm smells ;"}, {"rule c clean", "fed warm smells ;"},
        {"rule c fed", "< > ="}, {"rule c fed <", "NUMBER"}, {"rule c fed < 1", "warm smells ;"},
        {"rule c warm", "< > ="}, {"rule c warm >", "NUMBER"}, {"rule c warm > 1", "smells ;"},
        {"rule c smells", "NAME"}, {"rule c smells s", ";"}, {"rule c guilty fed = 1 warm = 1", "smells ;"},
        {"person", "NAME"}, {"person zz", "guilty fed smells ;"}, {"person zz guilty", "fed smells ;"},
        {"person zz fed", "NUMBER"}, {"person zz fed 1", "smells ;"}, {"person zz smells", "NAME ;"}, {"person zz smells s", "NAME ;"},
        {"reader", "NAME"}, {"reader zz", "slips"}, {"reader zz slips", "NUMBER"}, {"reader zz slips 1", "votes"},
        {"reader zz slips 1 votes", "NUMBER"}, {"reader zz slips 1 votes 1", ";"},
        {"word", "NAME"}, {"word p", "guilty clean"}, {"word p guilty", ";"}};
    private static final String[][] IN_WEEKS = {
        {"", "sit term feed rub wash night any when loop stop"},
        {"loop 1;", "sit term feed rub wash night any when loop stop end"}, {"loop 1; end", ";"},
        {"when held p; any;", "sit term feed rub wash night any when loop stop end"},
        {"sit", "NAME"}, {"sit p", ";"}, {"term", ";"}, {"feed", "NAME"}, {"feed p", "NUMBER"}, {"feed p 1", ";"},
        {"rub", "NAME"}, {"rub p", "NAME"}, {"rub p s", ";"}, {"wash", "NAME"}, {"wash p", "NAME"}, {"wash p s", ";"},
        {"night", ";"}, {"any", ";"}, {"stop", ";"},
        {"when", "shows held free warm"}, {"when shows", "NAME"}, {"when shows p", "NAME"}, {"when shows p c", ";"},
        {"when held", "NAME"}, {"when held p", ";"}, {"when free", "NAME"}, {"when free p", ";"},
        {"when warm", "< > ="}, {"when warm <", "NUMBER"}, {"when warm < 1", ";"}, {"loop", "NUMBER"}, {"loop 1", ";"}};

    /** FAULT "2 it can't stand there": each TOKEN behind each beginning of a PART, of a STEP. */
    static void boundEachTokenAtEachPlace() {
        for (String[] row : IN_A_COURT) {
            eachToken(row, false);
        }
        for (String[] row : IN_WEEKS) {
            eachToken(row, true);
        }
    }

    private static void eachToken(String[] row, boolean ofWeeks) {
        List<String> canStand = List.of(row[1].split(" "));
        List<String> tokens = new ArrayList<>(List.of(RESERVED));
        tokens.addAll(List.of("; < > = 1 0 9999 s c p r zz abcdefgh abcdefghi ! A 12345".split(" ")));
        String ahead = (ofWeeks ? "" : AHEAD) + row[0] + " ";
        for (String token : tokens) {
            boolean isName = token.matches("[a-z]{1,8}") && !List.of(RESERVED).contains(token);
            String kind = isName ? "NAME" : token.matches("[0-9]{1,4}") ? "NUMBER" : token;
            if (!canStand.contains(kind)) {
                int fault = token.matches("[!A]|12345") ? 1 : 2;
                if (ofWeeks) {
                    Check.weeksFault(AHEAD, ahead + token, fault, ahead.length());
                } else {
                    Check.courtFault(ahead + token, fault, ahead.length());
                }
                continue;
            }
            CatWitness x = Check.with(AHEAD);
            if (ofWeeks) {
                Check.weeks(x, ahead + token);
            } else {
                Check.court(x, ahead + token);
            }
            boolean refused = x.status() == 9 && x.fault(1) == ahead.length();
            Check.is(refused && (x.fault(0) == 1 || x.fault(0) == 2), false);
        }
    }

    /** FAULT "2 it can't stand there (the end: the text's length)". */
    static void boundEndOfTheText() {
        String[] parts = {"smell a;", "sign b means nothing;", "rule c guilty fed < 1 warm > 2 smells s;", "person d guilty fed 3 smells s;",
            "reader e slips 4 votes 5;", "word p clean;"};
        for (String part : parts) {
            String[] tokens = part.replace(";", " ;").split(" ");
            String text = AHEAD;
            for (int i = 0; i < tokens.length - 1; i++) {
                text += tokens[i];
                Check.courtFault(text, 2, text.length());
                Check.courtFault(text + " \n ", 2, text.length() + 3);
                text += " ";
            }
            Check.with(text + ";");
        }
        for (String step : new String[] {"sit p", "term", "feed p 1", "rub p s", "wash p s", "night", "any", "stop", "when shows p c", "when held p",
            "when free p", "when warm < 1", "loop 2"}) {
            String text = "";
            for (String token : step.split(" ")) {
                text += token;
                Check.weeksFault(AHEAD, text, 2, text.length());
                Check.weeksFault(AHEAD, text + "\n ", 2, text.length() + 2);
                text += " ";
            }
        }
        // The text of nothing has none.
        CatWitness x = new CatWitness();
        Check.gave(x, x.court(0), 0);
        Check.gave(x, x.weeks(0), 0);
        Check.gave(x, Check.court(x, " \n "), 0);
        Check.is(x.fault(0), 0);
    }

    /** "A COURT that is taken is there in place of that ahead; WARM is 0, all PEOPLE WAIT, there was no SITTING; there are no WEEKS." */
    static void boundCourtInPlaceOfThatAhead() {
        String text = "smell s; sign c means clean; sign d means guilty; rule c guilty; rule d fed > 1; person p guilty fed 7 smells s; person q fed 2;"
            + " person r; reader t slips 3 votes 4; word p clean; word r guilty;";
        CatWitness x = new CatWitness();
        // More than one, so that no row of an older one is left in it.
        for (int i = 0; i < 4; i++) {
            Check.gave(x, Check.court(x, text), 3);
            int[] due = {1, 2, 2, 3, 1, 2, 0, 0, 7, 0, 0, 1, 4};
            for (int what = 0; what < due.length; what++) {
                Check.gave(x, x.told(what), due[what]);
            }
            Check.none(x, x.live(0), 6);
            int[][] people = {{7, 1, 0, 1, 0}, {2, 0, 0, 0, 0}, {0, 0, 0, 0, 0}};
            for (int p = 0; p < people.length; p++) {
                for (int what = 0; what < 5; what++) {
                    Check.gave(x, x.person(p, what), people[p][what]);
                }
            }
            Check.gave(x, Check.weeks(x, "any;"), 1);
            Check.gave(x, x.term(), 1);
            Check.gave(x, x.told(10), 2);
            Check.gave(x, x.live(3), 1);
            x.scent(2, 0, true);
            x.blame(2, true);
            x.sit(2);
        }
    }

    /** "A COURT that is taken is there in place of that ahead": one of less has nothing of one of more; nor when it is taken back to it. */
    static void boundLesserCourtBehindAGreater() {
        StringBuilder greater = new StringBuilder("smell u; smell v; sign m means guilty; sign n means guilty;" + "rule m;".repeat(8));
        for (char c = 'a'; c <= 'f'; c++) {
            greater.append("person ").append(c).append(" guilty fed 99 smells u v;reader r").append(c).append(" slips 0 votes 9;");
        }
        greater.append("word a guilty;".repeat(10));
        CatWitness x = new CatWitness();
        for (int i = 0; i < 2; i++) {
            // One is read while the other is there: only twice the same can be left in the third.
            Check.gave(x, Check.court(x, greater.toString()), 6);
            x.term();
            Check.gave(x, x.told(10), 63);
            Check.gave(x, Check.court(x, greater.toString()), 6);
            Check.gave(x, Check.court(x, "sign c means clean; rule c guilty fed = 99; person p fed 1; reader r slips 4 votes 2; word p clean;"), 1);
            lesser(x);
        }
        x.mark();
        Check.gave(x, Check.court(x, greater.toString()), 6);
        x.term();
        x.undo();
        lesser(x);
        // NAMES, too.
        Check.gave(x, Check.court(x, greater.toString()), 6);
        Check.gave(x, Check.court(x, ""), 0);
        Check.none(x, Check.court(x, "reader f slips 1 votes 1; reader f slips 1 votes 1;"), 9);
        Check.is(x.fault(0), 3);
        Check.is(x.fault(1), 33);
        Check.gave(x, Check.court(x, "smell a; sign f means clean; person m; reader u slips 1 votes 1;"), 1);
    }

    private static void lesser(CatWitness x) {
        int[] due = {0, 1, 1, 1, 1, 1, 0, 0, 1, 0, 0, 0, 2};
        for (int what = 0; what < due.length; what++) {
            Check.gave(x, x.told(what), due[what]);
        }
        Check.none(x, x.person(1, 2), 1);
        Check.none(x, x.judgedIn(1), 1);
        Check.none(x, x.appeal(1), 1);
        Check.none(x, x.blame(1, true), 1);
        Check.none(x, x.sit(1), 1);
        Check.none(x, x.rule(1, 0), 1);
        Check.none(x, x.word(1, 0), 1);
        Check.gave(x, x.shown(0), 0);
        Check.gave(x, x.freeIn(40), 0);
        Check.gave(x, x.reach(0), 0);
        Check.gave(x, x.mute(), 420);
        Check.gave(x, x.clash(), 0);
        Check.gave(x, x.struck(), 0);
        Check.gave(x, x.best(), 0);
        Check.gave(x, x.bestAt(0), 0);
        Check.none(x, x.bestAt(1), 6);
        Check.gave(x, x.game(3), 0);
        Check.told(x, x.verdict(1), 3, 4);
        Check.told(x, x.power(0), 1, 1);
        x.tray(0, 0, 1);
        Check.gave(x, x.fits(0, 0), 2);
        Check.gave(x, x.ask(0, 0, 0), 0);
        Check.gave(x, x.ask(0, 0, 1), 0);
        Check.gave(x, x.copyFed(0), 1);
        Check.gave(x, x.read(0, 0), 1);
        Check.gave(x, Check.weeks(x, "night;"), 1);
        Check.told(x, x.mean(0, 1), 1, 1);
        Check.gave(x, x.live(0), 1);
    }

    /** "9: the old one stays": with all that became of it, its WEEKS, too. */
    static void boundOldCourtStays() {
        CatWitness x = Check.with(AHEAD + "rule c warm = 0; person q;");
        Check.weeks(x, "sit p; any;");
        x.term();
        Check.none(x, Check.court(x, "smell a; smell b; person u guilty fed 3; person u;"), 9);
        int[] due = {1, 1, 1, 2, 1, 0, 2, 2, 2, 1, 0, 0, 1};
        for (int what = 0; what < due.length; what++) {
            Check.gave(x, x.told(what), due[what]);
        }
        Check.gave(x, x.person(0, 2), 1);
        Check.gave(x, x.rule(0, 3), 0);
        Check.told(x, x.mean(1, 1), 1, 1);
        Check.gave(x, x.live(1), 2);
        Check.gave(x, Check.weeks(x, "sit q; rub p s;"), 2);
    }

    // ---- WEEKS.

    /** "WEEKS are a TEXT of at most 300 bytes ... (none at first)". */
    static void boundWeeksOf300Bytes() {
        CatWitness x = Check.with(AHEAD);
        Check.none(x, x.live(0), 6);
        Check.none(x, x.mean(0, 1), 6);
        Check.gave(x, Check.weeks(x, "any" + " ".repeat(296) + ";"), 1);
        Check.feed(x, "any" + " ".repeat(297) + ";");
        Check.none(x, x.weeks(301), 1);
        Check.none(x, x.weeks(320), 1);
        Check.none(x, x.weeks(300), 9);
        Check.is(x.fault(0), 2);
        Check.is(x.fault(1), 300);
        Check.gave(x, x.live(0), 1);
        // The COURT may be longer.
        Check.gave(x, Check.court(x, "person a;" + " ".repeat(292)), 1);
    }

    /** "feed: 1 to 9", "loop n (1 to 99)", "warm: 0 to 9"; FAULT "4 a NUMBER that can't be". */
    static void boundNumbersOfWeeks() {
        weeksNumber("feed p ", ";", 1, 9, 1);
        weeksNumber("loop ", "; end;", 1, 99, 1);
        weeksNumber("when warm < ", "; end;", 0, 9, 1);
        weeksNumber("when warm > ", "; end;", 0, 9, 1);
        weeksNumber("when warm = ", "; end;", 0, 9, 1);
    }

    private static void weeksNumber(String ahead, String behind, int least, int most, int steps) {
        CatWitness x = Check.with(AHEAD);
        for (int n = least; n <= most; n++) {
            Check.gave(x, Check.weeks(x, ahead + n + behind), steps);
            if (n % 40 == 39) {
                x = Check.with(AHEAD);
            }
        }
        if (least > 0) {
            Check.weeksFault(AHEAD, ahead + (least - 1) + behind, 4, ahead.length());
        }
        Check.weeksFault(AHEAD, ahead + (most + 1) + behind, 4, ahead.length());
        Check.weeksFault(AHEAD, ahead + "9999" + behind, 4, ahead.length());
        Check.weeksFault(AHEAD, ahead + "00001" + behind, 1, ahead.length());
    }

    /** FAULTS "1, 2 as above (an end without a beginning; the text's end ahead of an end: 2)". */
    static void boundEndsAndBeginnings() {
        Check.weeksFault(AHEAD, "end;", 2, 0);
        Check.weeksFault(AHEAD, "any; end;", 2, 5);
        Check.weeksFault(AHEAD, "loop 2; end; end;", 2, 13);
        Check.weeksFault(AHEAD, "when held p; loop 2; end; end; any; end;", 2, 36);
        Check.weeksFault(AHEAD, "loop 2;", 2, 7);
        Check.weeksFault(AHEAD, "loop 2; any; \n", 2, 14);
        Check.weeksFault(AHEAD, "loop 2; when held p; end; any;", 2, 30);
        Check.weeksFault(AHEAD, "loop 2; end", 2, 11);
        Check.weeksFault(AHEAD, "loop 2; end end;", 2, 12);
        Check.weeksFault(AHEAD, "loop 2; end p;", 2, 12);
        // One that is refused with some left open leaves none open in the next.
        CatWitness x = Check.with(AHEAD);
        for (int i = 0; i < 3; i++) {
            Check.none(x, Check.weeks(x, "loop 2; loop 2; loop 2;"), 9);
            Check.gave(x, Check.weeks(x, "any;"), 1);
            Check.none(x, Check.weeks(x, "loop 2; loop 2; loop 2;"), 9);
            Check.none(x, Check.weeks(x, "end;"), 9);
            Check.is(x.fault(0), 2);
            Check.is(x.fault(1), 0);
            Check.gave(x, Check.weeks(x, "loop 2; loop 2; loop 2; end; end; end;"), 3);
        }
    }

    /** FAULT "3 a NAME that is no such one (a PERSON; then a SMELL behind rub, wash, a CUE behind shows)". */
    static void boundNamesInWeeks() {
        for (String other : "s c r z".split(" ")) {
            for (String ahead : new String[] {"sit ", "feed ", "rub ", "wash ", "when shows ", "when held ", "when free "}) {
                Check.weeksFault(AHEAD, ahead + other + " z;", 3, ahead.length());
            }
        }
        for (String other : "p c r z".split(" ")) {
            Check.weeksFault(AHEAD, "rub p " + other + ";", 3, 6);
            Check.weeksFault(AHEAD, "wash p " + other + ";", 3, 7);
        }
        for (String other : "p s r z".split(" ")) {
            Check.weeksFault(AHEAD, "when shows p " + other + "; end;", 3, 13);
        }
        // In a COURT of nothing there is none.
        Check.weeksFault("", "sit p;", 3, 4);
        Check.weeksFault("person p;", "rub p s;", 3, 6);
        Check.weeksFault("person p;", "when shows p c;", 3, 13);
        // A NAME that is taken is no FAULT in WEEKS.
        CatWitness x = Check.with(AHEAD);
        Check.gave(x, Check.weeks(x, "sit p; sit p;"), 2);
    }

    /** FAULT "6 a 31st STEP (at its WORD; end is none)". */
    static void boundWeeksOf30Steps() {
        CatWitness x = Check.with(AHEAD);
        String thirty = "any;".repeat(30);
        Check.gave(x, Check.weeks(x, thirty), 30);
        String blocks = "loop 1;" + "when held p;end;".repeat(14) + "end;";
        Check.gave(x, Check.weeks(x, blocks), 15);
        String open = "loop 1;" + "any;".repeat(29);
        Check.gave(x, Check.weeks(x, open + "end;"), 30);
        for (String step : new String[] {"sit p;", "term;", "feed p 1;", "rub p s;", "wash p s;", "night;", "any;", "when held p;", "loop 1;", "stop;"}) {
            Check.weeksFault(AHEAD, thirty + step, 6, thirty.length());
            Check.weeksFault(AHEAD, thirty + step.replaceAll("[ ;].*", ""), 6, thirty.length());
        }
        Check.weeksFault(AHEAD, open + "end;any;", 6, open.length() + 4);
        // What is no STEP at all can't stand there.
        Check.weeksFault(AHEAD, thirty + "zz;", 2, thirty.length());
        Check.weeksFault(AHEAD, thirty + "smell;", 2, thirty.length());
        Check.weeksFault(AHEAD, thirty + "end;", 2, thirty.length());
    }

    /** FAULT "7 a when, loop within three others (at its WORD)". */
    static void boundThreeDeep() {
        CatWitness x = Check.with(AHEAD);
        Check.gave(x, Check.weeks(x, "loop 1; when held p; loop 2; any; end; end; end;"), 4);
        // Behind an end there is room again.
        Check.gave(x, Check.weeks(x, "loop 1; loop 1; loop 1; end; when held p; end; end; loop 1; when free p; end; end; end; loop 1; end;"), 7);
        for (String three : new String[] {"loop 1; loop 1; loop 1; ", "when held p; when free p; when warm < 1; ", "loop 1; when held p; loop 1; any; "}) {
            for (String fourth : new String[] {"loop 1; end;", "when held p; end;", "loop", "when", "loop 100;", "when zz"}) {
                Check.weeksFault(AHEAD, three + fourth, 7, three.length());
            }
        }
        Check.weeksFault(AHEAD, "loop 1; loop 1; loop 1; end; loop 1; loop 1;", 7, 37);
    }

    /** "weeks() with 9": the old WEEKS stay. */
    static void boundOldWeeksStay() {
        CatWitness x = Check.with(AHEAD);
        Check.none(x, Check.weeks(x, "any; any"), 9);
        Check.none(x, x.live(0), 6);
        Check.gave(x, Check.weeks(x, "night; sit p; feed p 3;"), 3);
        Check.none(x, Check.weeks(x, "any; any; any; any; end;"), 9);
        Check.told(x, x.mean(0, 20), 3, 1);
        Check.gave(x, x.live(0), 3);
        Check.gave(x, x.person(0, 0), 3);
        Check.gave(x, x.person(0, 4), 1);
        Check.gave(x, x.lived(0), 1);
    }
}
