/** What the tests of promises and of boundaries share: calls of a class's promiseN() or boundX() methods, checks, texts. */
final class Check {
    private static int wrong = 0;
    private static int made = 0;

    private Check() {
    }

    /** Runs promiseFrom() to promiseTo() of a test, each of which must be there, and ends with 1 if a check failed. */
    static void promises(Class<?> test, int from, int to) {
        for (int promise = from; promise <= to; promise++) {
            int before = made;
            try {
                test.getDeclaredMethod("promise" + promise).invoke(null);
            } catch (ReflectiveOperationException e) {
                wrong++;
                System.out.println("promise " + promise + ": " + e + " " + e.getCause());
            }
            if (made == before) {
                wrong++;
                System.out.println("promise " + promise + " has no check");
            }
        }
        System.out.println(made + " checks, " + wrong + " wrong");
        if (wrong != 0) {
            System.exit(1);
        }
    }

    /** Runs all boundX() of a test, each of which must check something, and ends with 1 if a check failed. */
    static void bounds(Class<?> test) {
        java.lang.reflect.Method[] methods = test.getDeclaredMethods();
        java.util.Arrays.sort(methods, java.util.Comparator.comparing(java.lang.reflect.Method::getName));
        int ran = 0;
        for (java.lang.reflect.Method method : methods) {
            if (!method.getName().startsWith("bound")) {
                continue;
            }
            ran++;
            int before = made;
            try {
                method.invoke(null);
            } catch (ReflectiveOperationException e) {
                wrong++;
                System.out.println(method.getName() + ": " + e + " " + e.getCause());
            }
            if (made == before) {
                wrong++;
                System.out.println(method.getName() + " has no check");
            }
        }
        System.out.println(ran + " sentences, " + made + " checks, " + wrong + " wrong");
        if (wrong != 0 || ran == 0) {
            System.exit(1);
        }
    }

    static void is(long got, long want) {
        made++;
        if (got != want) {
            wrong++;
            System.out.println(where() + ": answered " + got + ", due is " + want);
        }
    }

    static void is(boolean got, boolean want) {
        is(got ? 1 : 0, want ? 1 : 0);
    }

    /** The call gave this with STATUS 0. */
    static void gave(CatWitness x, long got, long want) {
        made++;
        if (got != want || x.status() != 0) {
            wrong++;
            System.out.println(where() + ": answered " + got + " with STATUS " + x.status() + ", due is " + want + " with 0");
        }
    }

    static void gave(CatWitness x, boolean got) {
        gave(x, got ? 1 : 0, 1);
    }

    /** The call gave NONE with this STATUS. */
    static void none(CatWitness x, long got, int status) {
        made++;
        if (got != CatWitness.NONE || x.status() != status) {
            wrong++;
            System.out.println(where() + ": answered " + got + " with STATUS " + x.status() + ", due is NONE with " + status);
        }
    }

    /** The call gave false with this STATUS. */
    static void none(CatWitness x, boolean got, int status) {
        none(x, got ? 1 : CatWitness.NONE, status);
    }

    /** The call gave this FRACTION. */
    static void told(CatWitness x, boolean got, long top, long bottom) {
        made++;
        if (!got || x.status() != 0 || x.top() != top || x.bottom() != bottom) {
            wrong++;
            System.out.println(where() + ": answered " + got + " with STATUS " + x.status() + " and " + x.top() + "/" + x.bottom()
                + ", due is " + top + "/" + bottom);
        }
    }

    private static String where() {
        return StackWalker.getInstance().walk(frames -> frames
            .filter(frame -> !frame.getClassName().equals("Check"))
            .findFirst().map(frame -> frame.getMethodName() + ", line " + frame.getLineNumber()).orElse("?"));
    }

    /** Feeds a text, with 0s behind it up to a whole number of twenties. */
    static void feed(CatWitness x, String text) {
        int[] ints = new int[(text.length() + 19) / 20 * 5];
        for (int i = 0; i < text.length(); i++) {
            ints[i / 4] |= (text.charAt(i) & 255) << 24 - 8 * (i % 4);
        }
        for (int i = 0; i < ints.length; i += 5) {
            x.feed(ints[i], ints[i + 1], ints[i + 2], ints[i + 3], ints[i + 4]);
        }
    }

    static int court(CatWitness x, String text) {
        feed(x, text);
        return x.court(text.length());
    }

    static int weeks(CatWitness x, String text) {
        feed(x, text);
        return x.weeks(text.length());
    }

    /** A new object with a COURT, which must be taken. */
    static CatWitness with(String text) {
        CatWitness x = new CatWitness();
        court(x, text);
        if (x.status() != 0) {
            wrong++;
            System.out.println(where() + ": the text is not taken, FAULT " + x.fault(0) + " at " + x.fault(1));
        }
        return x;
    }

    /** A COURT in which there were so many SITTINGS before a PERSON of such a NAME; WARM is 0. */
    static CatWitness worn(String court, String person, int sittings) {
        CatWitness x = with(court);
        String sit = "sit " + person + ";";
        int left = sittings;
        weeks(x, "loop 99;" + sit.repeat(3) + "end; night;");
        for (; left >= 297; left -= 297) {
            x.live(0);
        }
        for (; left > 0; left -= Math.min(99, left)) {
            weeks(x, "loop " + Math.min(99, left) + ";" + sit + "end; night;");
            x.live(0);
        }
        gave(x, x.told(7), sittings);
        return x;
    }

    /** A COURT that is not taken: the FAULT and its place. */
    static void courtFault(String text, int kind, int place) {
        CatWitness x = new CatWitness();
        none(x, court(x, text), 9);
        fault(x, kind, place);
    }

    /** WEEKS that are not taken in such a COURT. */
    static void weeksFault(String court, String text, int kind, int place) {
        CatWitness x = with(court);
        none(x, weeks(x, text), 9);
        fault(x, kind, place);
    }

    private static void fault(CatWitness x, int kind, int place) {
        made++;
        if (x.fault(0) != kind || x.fault(1) != place) {
            wrong++;
            System.out.println(where() + ": FAULT " + x.fault(0) + " at " + x.fault(1) + ", due is " + kind + " at " + place);
        }
    }
}
