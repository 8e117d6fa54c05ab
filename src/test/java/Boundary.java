import java.util.ArrayList;
import java.util.List;

/** Tests of single sentences of ../shared/DOC.md, each named by where its sentence stands and by the sentence. */
abstract class Boundary extends Checks {
    /** A test's name: the section ('Terms', 'Promise 4'), the promises that show it, the sentence word by word. */
    record Named(String section, String shownBy, String sentence) {
        String name() {
            String by = shownBy.isEmpty() ? "" : " (shown by " + shownBy + ")";
            return section + by + ": \"" + sentence + "\"";
        }
    }

    static final List<Named> TESTS = new ArrayList<>();
    static int right = 0;
    static int wrong = 0;

    static void test(String section, String shownBy, String sentence, Runnable checks) {
        Named named = new Named(section, shownBy, sentence);
        TESTS.add(named);
        promise = named.name();
        int before = passed;
        int bad = failed;
        try {
            checks.run();
        } catch (RuntimeException e) {
            failed++;
            System.out.println(promise + ": threw " + e);
            e.printStackTrace(System.out);
        }
        if (failed == bad && passed > before) {
            right++;
        } else {
            wrong++;
            System.out.println("wrong: " + promise);
        }
    }

    static void terms(String shownBy, String sentence, Runnable checks) {
        test("Terms", shownBy, sentence, checks);
    }

    static void promise(int number, String sentence, Runnable checks) {
        test("Promise " + number, "", sentence, checks);
    }

    private static String unmarked(String marked) {
        int place = marked.indexOf('^');
        return marked.substring(0, place) + marked.substring(place + 1);
    }

    /** A text whose FAULT is of a kind and at the place marked by ^, as a HOUSE. */
    static void houseFault(String marked, int kind) {
        house(unmarked(marked), -1 - marked.indexOf('^'), kind);
    }

    static void walkFault(RugReader x, String marked, int kind) {
        walk(x, unmarked(marked), -2 - marked.indexOf('^'), kind);
    }

    static void sentenceFault(RugReader x, String marked, int kind) {
        sentence(x, unmarked(marked), -1 - marked.indexOf('^'), kind);
    }

    static byte[] bytes(int... of) {
        byte[] bytes = new byte[of.length];
        for (int i = 0; i < of.length; i++) {
            bytes[i] = (byte) of[i];
        }
        return bytes;
    }

    /** What readings() answers to told TUFTS, four numbers each. */
    static void readings(RugReader x, int answer, int... told) {
        tell(x, bytes(told));
        is("readings of " + java.util.Arrays.toString(told), x.readings(), answer);
        is("the tape behind readings()", x.count(8), 0);
    }

    /** All that a TUFT answers: DEPTH, treads, person, SOLE, DIR, age. */
    static void lies(RugReader x, int at, int... due) {
        for (int what = 0; what < due.length; what++) {
            is("tuft(" + at + ", " + what + ")", x.tuft(at, what), due[what]);
        }
    }

    static void nothingLies(RugReader x, int at) {
        lies(x, at, 0, 0, -1, -1, -1, -1);
    }

    /** What all calls that only ask answer, of a rug of 2 by 2 (so that the calls of an object do not run out). */
    static String state(RugReader x) {
        StringBuilder t = new StringBuilder();
        for (int what = 0; what <= 8; what++) {
            t.append(x.count(what)).append(' ');
        }
        for (int p = 0; p < x.count(2); p++) {
            for (int what = 0; what <= 5; what++) {
                t.append(x.person(p, what)).append(' ');
            }
        }
        for (int at : new int[] {0, 1, 12, 13}) {
            for (int what = 0; what <= 7; what++) {
                t.append(x.tuft(at, what)).append(' ');
            }
            t.append(x.missing(at)).append(' ').append(x.ways(at)).append(' ');
        }
        for (int k = -1; k <= 3; k++) {
            t.append(x.hidden(k)).append(' ').append(x.lay(k)).append(' ').append(x.said(k)).append(' ');
            t.append(x.walked(k)).append(' ').append(x.read(k, 0)).append(' ').append(x.read(k, 1)).append(' ');
        }
        t.append(x.fewest()).append(' ').append(x.fault()).append(' ').append(x.rarest()).append(' ');
        t.append(x.deepest()).append(' ').append(x.spot());
        return t.toString();
    }

    static void same(String what, String got, String due) {
        is(what + ": " + (got.equals(due) ? "as it was" : got + " was " + due), got.equals(due), true);
    }
}
