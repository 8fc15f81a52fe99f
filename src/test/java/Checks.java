import java.nio.charset.StandardCharsets;

/** What all tests share: a call's answer or exception against the one that is due, and texts fed to the tape. */
final class Checks {
    static final Class<? extends RuntimeException> INDEX = IndexOutOfBoundsException.class;
    static final Class<? extends RuntimeException> ARGUMENT = IllegalArgumentException.class;
    static final Class<? extends RuntimeException> STATE = IllegalStateException.class;
    static final Class<? extends RuntimeException> UNSUPPORTED = UnsupportedOperationException.class;
    static final Class<? extends RuntimeException> NO_SUCH = java.util.NoSuchElementException.class;

    private static int wrong = 0;
    private static int done = 0;

    interface Call {
        void run();
    }

    private Checks() {
    }

    static void due(String call, long got, long want) {
        done++;
        if (got != want) {
            wrong++;
            System.out.println(call + " answered " + got + ", due is " + want);
        }
    }

    static void due(String call, boolean got, boolean want) {
        due(call, got ? 1 : 0, want ? 1 : 0);
    }

    static void thrown(String call, Class<? extends RuntimeException> want, Call run) {
        done++;
        try {
            run.run();
        } catch (RuntimeException e) {
            if (e.getClass() != want) {
                wrong++;
                System.out.println(call + " threw " + e + ", due is " + want.getName());
            }
            return;
        }
        wrong++;
        System.out.println(call + " threw nothing, due is " + want.getName());
    }

    static void fail(String what) {
        wrong++;
        System.out.println(what);
    }

    static void finish() {
        System.out.println(wrong == 0 ? done + " answers are as due" : wrong + " answers are not as due");
        if (wrong != 0) {
            System.exit(1);
        }
    }

    static void feed(CheekTown x, String text) {
        feed(x, text.getBytes(StandardCharsets.ISO_8859_1));
    }

    static void feed(CheekTown x, byte[] bytes) {
        x.end(0);
        for (int at = 0; at < bytes.length; at += 20) {
            x.feed(number(bytes, at), number(bytes, at + 4), number(bytes, at + 8), number(bytes, at + 12), number(bytes, at + 16));
        }
        x.end(bytes.length);
    }

    private static int number(byte[] bytes, int at) {
        int number = 0;
        for (int i = at; i < at + 4; i++) {
            number = number << 8 | (i < bytes.length ? bytes[i] & 255 : 0);
        }
        return number;
    }

    /** A town told in these texts, each of which must be right. */
    static CheekTown townOf(String... texts) {
        CheekTown x = new CheekTown();
        for (String text : texts) {
            feed(x, text);
            x.town();
        }
        return x;
    }

    static int law(CheekTown x, String text) {
        feed(x, text);
        return x.law();
    }

    static int town(CheekTown x, String text) {
        feed(x, text);
        return x.town();
    }

    static int from(CheekTown x, boolean likely, int... greetings) {
        byte[] bytes = new byte[greetings.length];
        for (int i = 0; i < bytes.length; i++) {
            bytes[i] = (byte) greetings[i];
        }
        feed(x, bytes);
        return x.from(likely);
    }

    static void wrongTown(CheekTown x, String text, int fault) {
        feed(x, text);
        thrown("town of '" + text + "'", ARGUMENT, x::town);
        due("fault of '" + text + "'", x.fault(), fault);
    }

    /** A text that is wrong at the begin of its rest. */
    static void wrongTownBehind(CheekTown x, String right, String rest) {
        wrongTown(x, right + rest, right.length());
    }

    static void wrongLawBehind(CheekTown x, String right, String rest) {
        wrongLaw(x, right + rest, right.length());
    }

    static void rightTown(CheekTown x, String text) {
        feed(x, text);
        try {
            x.town();
        } catch (RuntimeException e) {
            fail("town of '" + text + "' threw " + e + ", fault " + x.fault());
        }
        due("fault of '" + text + "'", x.fault(), -1);
    }

    static void wrongLaw(CheekTown x, String text, int fault) {
        feed(x, text);
        thrown("law of '" + text + "'", ARGUMENT, x::law);
        due("fault of '" + text + "'", x.fault(), fault);
    }

    static void rightLaw(CheekTown x, String text, int lines) {
        feed(x, text);
        try {
            due("law of '" + text + "'", x.law(), lines);
        } catch (RuntimeException e) {
            fail("law of '" + text + "' threw " + e + ", fault " + x.fault());
        }
        due("fault of '" + text + "'", x.fault(), -1);
    }
}
