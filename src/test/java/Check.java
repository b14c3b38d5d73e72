/** What the tests share: answers counted, texts put on the TAPE, exceptions told apart. */
final class Check {
    /** A call that may be refused. */
    interface Call {
        long answer();
    }

    static final long UNKNOWN = -1_000_001;
    static final long WRONG = -1_000_002;

    private static int wrong = 0;
    private static int asked = 0;
    private static String within = "";

    private Check() {
    }

    /** What is printed ahead of each label from here on. */
    static void within(String text) {
        within = text;
    }

    static int asked() {
        return asked;
    }

    static void is(String label, long got, long want) {
        asked++;
        if (got != want) {
            wrong++;
            System.out.println(within + label + " answered " + name(got) + ", due is " + name(want));
        }
    }

    static void same(String label, String got, String want) {
        asked++;
        if (!got.equals(want)) {
            wrong++;
            System.out.println(within + label + " is\n  " + got + "\ndue is\n  " + want);
        }
    }

    static void unknown(String label, Call call) {
        is(label, of(call), UNKNOWN);
    }

    static void wrong(String label, Call call) {
        is(label, of(call), WRONG);
    }

    /** What a call answers, or which of the two exceptions it throws; any other one ends the test. */
    static long of(Call call) {
        try {
            return call.answer();
        } catch (java.util.NoSuchElementException e) {
            return UNKNOWN;
        } catch (IllegalArgumentException e) {
            return WRONG;
        }
    }

    private static String name(long answer) {
        if (answer == UNKNOWN) {
            return "NoSuchElementException";
        }
        return answer == WRONG ? "IllegalArgumentException" : Long.toString(answer);
    }

    /** Puts a text on the TAPE, twenty bytes a call, zeros behind it. */
    static void feed(EvenFinders x, String text) {
        for (int i = 0; i < text.length(); i += 20) {
            x.feed(four(text, i), four(text, i + 4), four(text, i + 8), four(text, i + 12), four(text, i + 16));
        }
    }

    private static int four(String text, int from) {
        int number = 0;
        for (int i = from; i < from + 4; i++) {
            number = number << 8 | (i < text.length() ? text.charAt(i) & 255 : 0);
        }
        return number;
    }

    static int town(EvenFinders x, String text) {
        feed(x, text);
        return x.town(text.length());
    }

    static int law(EvenFinders x, String text) {
        feed(x, text);
        return x.law(text.length());
    }

    static int work(EvenFinders x, String text) {
        feed(x, text);
        return x.work(text.length());
    }

    static int book(EvenFinders x, String text) {
        feed(x, text);
        return x.book(text.length());
    }

    static EvenFinders in(String town) {
        EvenFinders x = new EvenFinders();
        if (town(x, town) < 0) {
            wrong++;
            System.out.println(within + "the town does not stand: " + town + " at " + x.fault());
        }
        return x;
    }

    static String times(String text, int n) {
        return text.repeat(n);
    }

    static void end(String test) {
        System.out.println(test + ": " + asked + " answers, " + wrong + " not as due");
        if (wrong != 0 || asked == 0) {
            System.exit(1);
        }
    }
}
