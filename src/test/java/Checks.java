import java.util.NoSuchElementException;
import java.util.function.IntSupplier;

/** What tests by hand have in common: counting, telling texts, and what the calls that take a text answer. */
abstract class Checks {
    /** 5 by 3, a wall at X 2, Y 1; persons a (3, SOLE 1) and b (5, SOLE 2); WAYS p (0..4) and q (24, 12, 0, 1). */
    static final String HOUSE = "rug 5 3;person a 3 1 2;person b 5 2 1;way p 0 0 e 4;way q 0 2 n 2 e 1;"
            + "wall 2 1;door 0 0;door 4 2;fade 4;";
    static final int MIN = Integer.MIN_VALUE;
    static final int MAX = Integer.MAX_VALUE;
    static int passed = 0;
    static int failed = 0;
    static String promise = "";

    static void is(String call, int got, int due) {
        if (got == due) {
            passed++;
        } else {
            failed++;
            System.out.println(promise + ": " + call + " answered " + got + ", due is " + due);
        }
    }

    static void is(String call, boolean got, boolean due) {
        is(call, got ? 1 : 0, due ? 1 : 0);
    }

    static void none(String call, IntSupplier asked) {
        boolean thrown = false;
        try {
            asked.getAsInt();
        } catch (NoSuchElementException e) {
            thrown = true;
        }
        is(call + " throws NoSuchElementException", thrown, true);
    }

    static void tell(RugReader x, String text) {
        byte[] bytes = new byte[text.length()];
        for (int i = 0; i < bytes.length; i++) {
            bytes[i] = (byte) text.charAt(i);
        }
        tell(x, bytes);
    }

    static void tell(RugReader x, byte... bytes) {
        for (int i = 0; i < bytes.length; i += 20) {
            int[] five = new int[5];
            for (int k = 0; k < 20; k++) {
                five[k / 4] = five[k / 4] << 8 | (i + k < bytes.length ? bytes[i + k] & 255 : 0);
            }
            x.feed(five[0], five[1], five[2], five[3], five[4]);
        }
        x.end(bytes.length);
    }

    static String wide(int many) {
        return " ".repeat(many);
    }

    static RugReader of(String text) {
        RugReader x = new RugReader();
        tell(x, text);
        int lines = x.house();
        if (lines < 0) {
            is("house '" + text + "'", lines, text.length() - text.replace(";", "").length());
        }
        return x;
    }

    /** What house() answers to a text, and its FAULT behind that: place and kind, or LINES and 0. */
    static void house(String text, int answer, int kind) {
        RugReader x = new RugReader();
        tell(x, text);
        is("house '" + text + "'", x.house(), answer);
        is("fault of '" + text + "'", x.fault(), kind);
        is("the tape behind house()", x.count(8), 0);
    }

    static void walk(RugReader x, String text, int answer, int kind) {
        tell(x, text);
        is("walk '" + text + "'", x.walk(), answer);
        is("fault of '" + text + "'", x.fault(), kind);
        is("the tape behind walk()", x.count(8), 0);
    }

    static void walked(RugReader x, int why, int gone, int minutes, int at) {
        is("walked(0)", x.walked(0), why);
        is("walked(1)", x.walked(1), gone);
        is("walked(2)", x.walked(2), minutes);
        is("walked(3)", x.walked(3), at);
    }

    static void sentence(RugReader x, String text, int answer, int kind) {
        tell(x, text);
        is("sentence '" + text + "'", x.sentence(), answer);
        is("fault of '" + text + "'", x.fault(), kind);
        is("the tape behind sentence()", x.count(8), 0);
    }

    /** How many, and who as bits, of whom a SENTENCE may be said. */
    static void said(RugReader x, String text, int bits) {
        tell(x, text);
        is("sentence '" + text + "' stands", x.sentence() > 0, true);
        saidNow(x, "'" + text + "'", bits);
    }

    static void saidNow(RugReader x, String what, int bits) {
        int got = 0;
        int many = x.said(RugReader.NONE);
        for (int k = 0; k < many; k++) {
            got |= 1 << x.said(k);
        }
        is("said of " + what, got, bits);
        is("said behind the last", x.said(many), -1);
    }
}
