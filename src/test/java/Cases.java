import java.util.ArrayList;
import java.util.LinkedHashSet;
import java.util.List;
import java.util.Set;

/** What the tests by hand share: named cases, the answers that are due, and ways to make objects. */
abstract class Cases {
    static final int BAD = -1, STATE = -2, FULL = -3, NONE = -9;
    static final Set<String> NAMES = new LinkedHashSet<>();
    static final Set<String> FAILED = new LinkedHashSet<>();
    static boolean quiet = false;
    private static int asked = 0;
    private static String name = "";

    interface Check {
        void run();
    }

    /** A case fails, too, if the class throws in it: no call ever may. */
    static void check(String caseName, Check check) {
        name = caseName;
        if (!NAMES.add(name)) {
            fail("there are two cases of that name");
        }
        try {
            check.run();
        } catch (RuntimeException thrown) {
            fail("threw " + thrown);
        }
    }

    private static void fail(String how) {
        FAILED.add(name);
        if (!quiet) {
            System.out.println(name + ": " + how);
        }
    }

    static void due(String call, long got, long want) {
        asked++;
        if (got != want) {
            fail(call + " answered " + got + ", due is " + want);
        }
    }

    static void same(String what, String got, String want) {
        asked++;
        if (!got.equals(want)) {
            fail(what + " is " + got + ", due is " + want);
        }
    }

    static void end() {
        System.out.println(FAILED.isEmpty() ? asked + " answers are as due" : "cases that failed: " + FAILED.size());
        if (!FAILED.isEmpty()) {
            System.exit(1);
        }
    }

    static void types(StandingQueries x, String text) {
        for (int i = 0; i < text.length(); i++) {
            x.type(text.charAt(i));
        }
    }

    static int added(StandingQueries x, String text) {
        x.clear();
        types(x, text);
        return x.adds();
    }

    static StandingQueries with(String text) {
        StandingQueries x = new StandingQueries();
        due("adds() of " + text, added(x, text) > 0 ? 1 : 0, 1);
        return x;
    }

    static StandingQueries with(String text, String letters) {
        StandingQueries x = with(text);
        feed(x, letters);
        return x;
    }

    static void feed(StandingQueries x, String letters) {
        for (int i = 0; i < letters.length(); i++) {
            x.feeds(letters.charAt(i));
        }
    }

    static String lettersOf(StandingQueries x) {
        StringBuilder row = new StringBuilder();
        for (int i = 0; i < x.count(3); i++) {
            row.append((char) x.letter(i));
        }
        return row.toString();
    }

    static String wordOf(StandingQueries x, int w) {
        StringBuilder row = new StringBuilder();
        for (int i = 0; i < x.word(w, -1); i++) {
            row.append((char) x.word(w, i));
        }
        return row.toString();
    }

    static String wordsOf(StandingQueries x) {
        StringBuilder words = new StringBuilder();
        for (int w = 0; w < x.count(1); w++) {
            words.append(w == 0 ? "" : " ").append(wordOf(x, w));
        }
        return words.toString();
    }

    /** The queries as a text that tells them, in its plainest form. */
    static String queriesOf(StandingQueries x) {
        StringBuilder text = new StringBuilder();
        for (int q = 0; q < x.count(0); q++) {
            text.append("q;");
            for (int k = 0; k < x.query(q, 0); k++) {
                int sort = x.part(q, k, 0);
                text.append("hnp".charAt(sort)).append(' ');
                text.append(sort == 2 ? wordOf(x, x.part(q, k, 2)) + " " : "");
                text.append(wordOf(x, x.part(q, k, 1)));
                text.append(sort == 2 ? " " + x.part(q, k, 3) : "").append(';');
            }
        }
        return text.toString();
    }

    /** All that can be seen of an object, so that a refusal can be seen to change nothing. */
    static String all(StandingQueries x) {
        return held(x) + " " + x.count(4) + " " + x.count(5);
    }

    /** What an image keeps: queries and letters, and all that follows from them. */
    static String held(StandingQueries x) {
        List<Long> seen = new ArrayList<>();
        for (int what = 0; what < 6; what++) {
            seen.add((long) x.now(what));
            if (what < 4) {
                seen.add((long) x.count(what));
            }
        }
        for (int q = 0; q < x.count(0); q++) {
            for (int what = 0; what < 5; what++) {
                seen.add((long) x.query(q, what));
                for (int k = 0; k < x.query(q, 0); k++) {
                    seen.add((long) x.part(q, k, what));
                }
            }
        }
        for (int w = 0; w < x.count(1); w++) {
            for (int k = -1; k < x.hit(w, -1); k++) {
                seen.add((long) x.hit(w, k));
            }
        }
        return seen + " " + wordsOf(x) + " " + lettersOf(x);
    }
}
