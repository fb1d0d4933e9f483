import java.util.NoSuchElementException;
import java.util.Objects;

/** What all tests use: each check that fails is printed, and finish() ends with exit code 1 if there was one. */
final class Checks {
    interface Call {
        Object answer();
    }

    private static int made = 0;
    private static int wrong = 0;
    private static String about = "";

    /** A test that does not end is one that fails. */
    private static final long MOST_MILLISECONDS = 300_000;

    static {
        Thread guard = new Thread(() -> {
            try {
                Thread.sleep(MOST_MILLISECONDS);
            } catch (InterruptedException e) {
                return;
            }
            System.out.println("a test does not end" + about);
            Runtime.getRuntime().halt(1);
        });
        guard.setDaemon(true);
        guard.start();
    }

    private Checks() {
    }

    /** Names the words of the document's Terms that the next checks are about; SentencesTest looks for all of them. */
    static void terms(String... words) {
        about = " [" + String.join(" ", words) + "]";
    }

    /** Names the row of a promise that the next checks are about; SentencesTest looks for all of them. */
    static void promise(int number, String row) {
        about = " [Promise " + number + ": " + row + "]";
    }

    static void due(String what, Object got, Object want) {
        made++;
        if (!Objects.equals(got, want)) {
            wrong++;
            System.out.println(what + " answered " + got + ", due is " + want + about);
        }
    }

    /** The exact class is asked for, as the machine's own exceptions are classes below the document's. */
    static void throwing(String what, Class<? extends RuntimeException> want, Call call) {
        Object got;
        try {
            got = call.answer();
        } catch (RuntimeException e) {
            got = e.getClass();
        }
        due(what, got, want);
    }

    static void outOfBounds(String what, Call call) {
        throwing(what, IndexOutOfBoundsException.class, call);
    }

    static void badArgument(String what, Call call) {
        throwing(what, IllegalArgumentException.class, call);
    }

    static void badState(String what, Call call) {
        throwing(what, IllegalStateException.class, call);
    }

    static void noElement(String what, Call call) {
        throwing(what, NoSuchElementException.class, call);
    }

    /** A town built as the rows of signs say, five signs a row; the treasury's first money is enough for twelve. */
    static Hundredward laid(String... rows) {
        Hundredward town = new Hundredward();
        for (int row = 0; row < rows.length; row++) {
            for (int column = 0; column < rows[row].length(); column++) {
                char kind = rows[row].charAt(column);
                if (kind != '.') {
                    due("build for a test", town.build(row * 5 + column, kind), true);
                }
            }
        }
        return town;
    }

    static void finish() {
        if (made == 0 || wrong != 0) {
            System.out.println(wrong + " of " + made + " checks failed");
            System.exit(1);
        }
        System.out.println(made + " checks hold");
    }
}
