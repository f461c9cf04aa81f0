import java.util.Arrays;
import java.util.Random;

/**
 * SHORTEST, MORE and MANY against every row of up to five or six letters, one after the other: nothing is known here
 * of nodes or of states, so that a wrong thought about those can't stand on both sides.
 */
public final class RowTests extends Cases {
    private static final int QUERIES = 60, MOST_SMALL = 5, MOST_LARGE = 6, UNSEEN = -99;

    private final Random random;
    private final int spread;
    private final char[] sorts;
    private final String[] v;
    private final String[] w;
    private final int[] d;
    private final long[] many = new long[MOST_LARGE + 1];
    private String first;
    private int fewest;

    private RowTests(int seed) {
        random = new Random(seed);
        spread = 1 + random.nextInt(4);
        int parts = 1 + random.nextInt(4);
        int near = random.nextInt(6);
        sorts = new char[parts];
        v = new String[parts];
        w = new String[parts];
        d = new int[parts];
        for (int k = 0; k < parts; k++) {
            sorts[k] = k == near ? 'p' : random.nextInt(3) == 0 ? 'n' : 'h';
            v[k] = row(1 + random.nextInt(3));
            w[k] = row(1 + random.nextInt(3));
            d[k] = 1 + random.nextInt(4);
        }
    }

    private String row(int size) {
        StringBuilder row = new StringBuilder();
        for (int i = 0; i < size; i++) {
            row.append((char) ('a' + random.nextInt(spread)));
        }
        return row.toString();
    }

    private String text() {
        StringBuilder text = new StringBuilder("q;");
        for (int k = 0; k < sorts.length; k++) {
            text.append(sorts[k]).append(' ').append(sorts[k] == 'p' ? v[k] + " " + w[k] + " " + d[k] : w[k]).append(';');
        }
        return text.toString();
    }

    private boolean matches(String row) {
        for (int k = 0; k < sorts.length; k++) {
            boolean holds = sorts[k] == 'p' ? near(row, v[k], w[k], d[k]) : row.contains(w[k]) == (sorts[k] == 'h');
            if (!holds) {
                return false;
            }
        }
        return true;
    }

    private static boolean near(String row, String v, String w, int d) {
        for (int i = 0; i < row.length(); i++) {
            for (int j = i + 1; j <= i + d && j < row.length(); j++) {
                if (row.substring(0, i + 1).endsWith(v) && row.substring(0, j + 1).endsWith(w)) {
                    return true;
                }
            }
        }
        return false;
    }

    /** All rows that go on from a beginning by up to so many letters, in the order of their letters. */
    private void goThrough(String begin, String behind, int most) {
        if (matches(begin + behind)) {
            many[behind.length()]++;
            if (fewest == UNSEEN || behind.length() < fewest) {
                fewest = behind.length();
                first = behind;
            }
        }
        for (char c = 'a'; behind.length() < most && c <= 'h'; c++) {
            goThrough(begin, behind + c, most);
        }
    }

    private void rowsFrom(String begin, int most) {
        fewest = UNSEEN;
        Arrays.fill(many, 0L);
        goThrough(begin, "", most);
    }

    /** Rows of more letters were not gone through, so that they are told here like none. */
    private static int asFarAs(int most, int answer) {
        return answer == NONE || answer > most ? UNSEEN : answer;
    }

    private void go(int most) {
        StandingQueries x = with(text());
        rowsFrom("", most);
        for (int n = 0; n <= most; n++) {
            due("many(0, " + n + ")", x.many(0, n), many[n]);
        }
        due("shortest(0, -1)", asFarAs(most, x.shortest(0, -1)), fewest);
        for (int k = 0; k < fewest; k++) {
            due("shortest(0, " + k + ")", x.shortest(0, k), first.charAt(k));
        }
        moreFrom(x, most - 1);
    }

    private void moreFrom(StandingQueries x, int most) {
        for (int times = 0; times < 3; times++) {
            feed(x, row(1 + random.nextInt(3)));
            rowsFrom(lettersOf(x), most);
            due("more(0) behind " + lettersOf(x), asFarAs(most, x.more(0)), fewest);
        }
    }

    public static void main(String[] args) {
        int queries = args.length > 0 ? Integer.parseInt(args[0]) : QUERIES;
        for (int seed = 0; seed < queries; seed++) {
            RowTests rows = new RowTests(seed);
            int most = seed % 20 == 0 ? MOST_LARGE : MOST_SMALL;
            check(seed + " " + rows.text(), () -> rows.go(most));
        }
        end();
    }
}
