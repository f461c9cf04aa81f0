import java.lang.management.ManagementFactory;

/** All calls of one run live in one room: what they make must stay small, however dear the calls are. */
public final class RoomTests {
    private static final int CALLS = 512;
    private static final long MOST_BYTES_OF_A_RUN = 400_000, MOST_BYTES_OF_OBJECTS = 8_000_000;
    private static int wrong = 0;
    private static long sum = 0;

    private static long made() {
        return ((com.sun.management.ThreadMXBean) ManagementFactory.getThreadMXBean()).getCurrentThreadAllocatedBytes();
    }

    private static void most(String what, long bytes, long most) {
        if (bytes > most) {
            wrong++;
            System.out.println(what + " made " + bytes + " bytes, at most " + most + " are due");
        }
    }

    private static StandingQueries full() {
        StandingQueries x = new StandingQueries();
        String[] texts = {"q;p abcdef fedcba 9;h bcdefg;h cdefgh;h hgfedc;", "q;h ababab;h bababa;n cccccc;h dadada;",
            "q;h aaaaaa;q;h bbbbbb;q;h eeeeee;q;h ffffff;q;h gggggg;q;h ahahah;n hhhhhh;"};
        for (String text : texts) {
            for (int i = 0; i < text.length(); i++) {
                x.type(text.charAt(i));
            }
            sum += x.adds();
        }
        for (int i = 0; i < 40; i++) {
            x.feeds("abcdefgh".charAt(i % 8));
        }
        return x;
    }

    private static void ask(StandingQueries x, int i) {
        switch (i % 8) {
            case 0 -> sum += x.many(0, 12);
            case 1 -> sum += x.shortest(0, 9);
            case 2 -> sum += x.more(0);
            case 3 -> sum += x.adds();
            case 4 -> sum += x.cuts();
            case 5 -> sum += x.undo();
            case 6 -> sum += x.keep(i / 8 % 2) + x.back(i / 16 % 2);
            default -> sum += x.query(0, 2) + x.now(2) + x.drops(7) + x.feeds('h');
        }
    }

    public static void main(String[] args) {
        full();
        made();
        long before = made();
        StandingQueries x = full();
        for (int i = 0; i < CALLS; i++) {
            ask(x, i);
        }
        most("a run", made() - before, MOST_BYTES_OF_A_RUN);
        before = made();
        for (int i = 0; i < CALLS; i++) {
            sum += new StandingQueries().count(2);
        }
        most(CALLS + " objects", made() - before, MOST_BYTES_OF_OBJECTS);
        System.out.println(wrong == 0 ? "the room is kept" : "the room is not kept (" + sum + ")");
        if (wrong != 0) {
            System.exit(1);
        }
    }
}
