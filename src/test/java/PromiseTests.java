/** For each promise of the document: ordinary inputs, the edges that it names, wrong inputs. */
public final class PromiseTests extends Cases {
    private static void newObject() {
        StandingQueries x = new StandingQueries();
        int[] counts = {0, 0, 1, 0, 0, 0};
        for (int what = 0; what < 6; what++) {
            due("count(" + what + ")", x.count(what), counts[what]);
            due("now(" + what + ")", x.now(what), 0);
        }
        due("query(0, 0)", x.query(0, 0), BAD);
        due("word(0, -1)", x.word(0, -1), BAD);
        due("letter(0)", x.letter(0), BAD);
        due("node(0, 0)", x.node(0, 0), 0);
        due("next(0, a)", x.next(0, 'a'), 0);
        due("back(0)", x.back(0), STATE);
        due("back(1)", x.back(1), STATE);
        due("undo()", x.undo(), STATE);
        due("cuts()", x.cuts(), STATE);
        StandingQueries other = new StandingQueries();
        x.feeds('a');
        due("another object's letters", other.count(3), 0);
        due("feeds(h) without words", x.feeds('h'), 0);
    }

    private static void type() {
        StandingQueries x = new StandingQueries();
        int[] bad = {-1, 256, Integer.MIN_VALUE, Integer.MAX_VALUE};
        for (int c : bad) {
            due("type(" + c + ")", x.type(c), BAD);
        }
        due("type(0)", x.type(0), 1);
        due("type(255)", x.type(255), 2);
        for (int n = 3; n <= 150; n++) {
            due("type(32) by which there are " + n, x.type(32), n);
        }
        due("type(32) at 150", x.type(32), FULL);
        due("type(256) at 150", x.type(256), BAD);
        due("count(5)", x.count(5), 150);
        due("count(4)", x.count(4), 0);
    }

    private static void clear() {
        StandingQueries x = new StandingQueries();
        due("clear() of none", x.clear(), 0);
        types(x, "q;h a;");
        due("clear()", x.clear(), 6);
        due("count(5)", x.count(5), 0);
        due("clear() again", x.clear(), 0);
        due("adds() of what is left", x.adds(), 0);
        types(x, " ".repeat(150));
        due("clear() of 150", x.clear(), 150);
        due("type(113)", x.type('q'), 1);
    }

    private static final String[] FAULTS = {
        "h a;", "0", "n a;", "0", "p a b 1;", "0", "  h a;", "2", "x;", "0", "a;", "0", ";", "0", "1", "0", "qq;", "0",
        "qh a;", "0", "q;q;", "2", "q", "1", "q;", "2", "q;   ", "5", "q;h a", "5", "q;h a ", "6", "q;h", "3", "q;h ", "4",
        "q;p a b", "7", "q;p a b 1", "9", "q;p", "3", "q;p a", "5", "q h a;", "2", "q 1;", "2", "q;;", "2", "q;h a;;", "6",
        "q;h i;", "4", "q;h abcdefg;", "4", "q;h abcdefi", "4", "q;h az;", "4", "q;h ;", "4", "q;h;", "3", "q;h 1;", "4",
        "q;h a b;", "6", "q;h a1;", "5", "q;ha;", "2", "q;h aA;", "5", "q;h A;", "4", "q;p a;", "5", "q;p a 1;", "6",
        "q;p a b;", "7", "q;p a b c;", "8", "q;p a b 0;", "8", "q;p a b 10;", "8", "q;p a b 01;", "8", "q;p a b 99;", "8",
        "q;p a b 100;", "8", "q;p a b 00;", "8", "q;p a b 4294967297;", "8", "q;p a b 1 2;", "10", "q;p a b 1a;", "9",
        "q;p i b 1;", "4", "q;p a i 1;", "6", "q;p a b 1;p a b 1;", "10", "q;p a b 1;h c;p", "14",
        "q;h a;h b;h c;h d;h e;", "18", "q;h a;h a;h a;h a;n a;", "18", "q;h a;h b;h c;h d;p a b 1;", "18",
        "q;h a;q;q;", "8", "q;h a;q;", "8", "q;h a;q", "7", "q;h a;q;  ", "10", "q;h a;\t", "6", "\n", "0", "q;h a.", "5",
        "q;h a;p q;h b;", "8", "q;h a;p a q;h b;", "10", "q;h a;h q;h b;", "8", "q q;h a;", "2", "q;h a h b;", "6",
        "q;p a b h c;", "8", "q;p a b 1 h c;", "10", "q;h a;n n;", "8", "q;h h;p p;", "8",
        "-", "0", "q;h a;Q;", "6", "q;h a;h b;h c;h d;x", "18", "q;h 007;", "4", "007", "0", "   ,", "3", "q;h a,b;", "5",
        "q;h a;q;h b;q;h c;q;h d;q;h e;q;h f;q;h g;q;h h;q;h a;", "48",
        "q;h a;q;h b;q;h c;q;h d;q;h e;q;h f;q;h g;q;h h;q", "48",
    };

    private static void adds() {
        StandingQueries x = new StandingQueries();
        due("adds() of no text", x.adds(), 0);
        due("count(4)", x.count(4), 1);
        due("adds() of blanks", added(x, "   "), 0);
        due("count(5)", x.count(5), 0);
        due("adds() of one", added(x, "  q ; h  a ;n bc;  p  a  b9 ;  "), 1);
        due("part(0, 2, 3)", x.part(0, 2, 3), 9);
        due("adds() of two", added(x, "q;h abcdef;q;n h;n h;n h;n h;"), 2);
        due("count(0)", x.count(0), 3);
        due("query(2, 0)", x.query(2, 0), 4);
        due("count(4)", x.count(4), 4);
        due("adds() up to 8", added(x, "q;h a;q;h a;q;h a;q;h a;q;h a;"), 5);
        due("adds() of a ninth", added(x, "q;h a;"), -10);
        due("adds() of none at 8", added(x, " "), 0);
        for (int i = 0; i < FAULTS.length; i += 2) {
            faultOf(FAULTS[i], Integer.parseInt(FAULTS[i + 1]));
        }
        faultsAtSixteenWords();
        for (int c = 0; c < 256; c++) {
            if (c != 32 && c != 'q') {
                faultOf(String.valueOf((char) c), 0);
            }
        }
    }

    private static void faultOf(String text, int fault) {
        StandingQueries x = with("q;h abc;n b;", "abb");
        x.clear();
        types(x, text);
        String before = all(x);
        StandingQueries fresh = new StandingQueries();
        due("adds() of '" + text + "' on a new object", added(fresh, text), -10 - fault);
        if (!text.startsWith("q;h a;q;h b;q;h c;")) {
            due("adds() of '" + text + "'", x.adds(), -10 - fault);
            same("all behind a fault", all(x), before);
        }
    }

    private static void faultsAtSixteenWords() {
        StandingQueries x = with("q;h a;h b;h c;h d;q;h e;h f;h g;h h;q;h aa;h ab;h ac;h ad;q;n ae;n af;n ag;");
        due("count(1)", x.count(1), 15);
        due("adds() of a seventeenth word", added(x, "q;h ah;h ba;"), -10 - 9);
        due("adds() of it as v", added(x, "q;h ah;p ba a 1;"), -10 - 9);
        due("adds() of it as w", added(x, "q;p ah ba 1;"), -10 - 7);
        due("count(1)", x.count(1), 15);
        due("adds() of v and w alike", added(x, "q;p ah ah 1;n ah;h a;"), 1);
        due("count(1)", x.count(1), 16);
        due("adds() of known words", added(x, "q;h a;q;h ah;"), 2);
        due("adds() of one more", added(x, "q;h a;n ba;"), -10 - 8);
    }

    private static void drops() {
        StandingQueries x = with("q;h abc;q;p ab b 2;n c;q;h d;h abc;");
        due("drops(-1)", x.drops(-1), BAD);
        due("drops(3)", x.drops(3), BAD);
        due("count(4)", x.count(4), 1);
        due("drops(1)", x.drops(1), 2);
        due("count(1)", x.count(1), 2);
        due("count(2)", x.count(2), 5);
        due("query(1, 0)", x.query(1, 0), 2);
        due("part(1, 0, 1)", x.part(1, 0, 1), 1);
        due("part(1, 1, 1)", x.part(1, 1, 1), 0);
        due("drops(0)", x.drops(0), 1);
        due("count(1)", x.count(1), 2);
        due("drops(0)", x.drops(0), 0);
        due("count(1)", x.count(1), 0);
        due("count(2)", x.count(2), 1);
        due("count(4)", x.count(4), 4);
        due("drops(0) of none", x.drops(0), BAD);
        StandingQueries y = with("q;n a;q;h a;q;n b;", "a");
        due("now(1)", y.now(1), 6);
        due("drops(0)", y.drops(0), 2);
        due("now(1)", y.now(1), 3);
        due("drops(1) of the last", y.drops(1), 1);
        due("now(0)", y.now(0), 1);
        due("letters stay", y.count(3), 1);
    }

    private static void feeds() {
        StandingQueries x = with("q;h ab;h bc;");
        due("feeds(96)", x.feeds(96), BAD);
        due("feeds(105)", x.feeds(105), BAD);
        due("feeds(0)", x.feeds(0), BAD);
        due("count(4)", x.count(4), 1);
        due("feeds(a)", x.feeds('a'), 1);
        due("feeds(b)", x.feeds('b'), 3);
        due("feeds(c)", x.feeds('c'), 4);
        due("feeds(h)", x.feeds('h'), 0);
        for (int n = 5; n <= 40; n++) {
            due("feeds(b)", x.feeds('b'), 2);
            due("count(3)", x.count(3), n);
        }
        due("feeds(a) at 40", x.feeds('a'), FULL);
        due("feeds(105) at 40", x.feeds(105), BAD);
        due("count(3)", x.count(3), 40);
        due("letter(39)", x.letter(39), 'b');
    }

    private static void cuts() {
        StandingQueries x = with("q;h ab;", "abh");
        due("cuts()", x.cuts(), 'h');
        due("now(0)", x.now(0), 2);
        due("cuts()", x.cuts(), 'b');
        due("now(0)", x.now(0), 1);
        due("now(5)", x.now(5), 0);
        due("cuts()", x.cuts(), 'a');
        due("count(4)", x.count(4), 7);
        due("cuts() of none", x.cuts(), STATE);
        due("count(4)", x.count(4), 7);
        due("count(0)", x.count(0), 1);
    }

    private static void undo() {
        StandingQueries x = with("q;h ab;");
        String one = all(x);
        x.feeds('a');
        String two = all(x);
        x.cuts();
        String three = all(x);
        added(x, "q;n c;");
        String four = all(x);
        x.drops(0);
        due("undo() of drops", x.undo(), 4);
        same("all", all(x), four);
        due("undo() of adds", x.undo(), 3);
        same("all", all(x), three);
        due("undo() of cuts", x.undo(), 2);
        same("all", all(x), two);
        due("undo() of feeds", x.undo(), 1);
        same("all", all(x), one);
        due("undo() of the first", x.undo(), 0);
        due("count(0)", x.count(0), 0);
        due("undo() of none", x.undo(), STATE);
        undoOfManyFeeds();
        undoLeavesTheText();
    }

    private static void undoOfManyFeeds() {
        StandingQueries x = new StandingQueries();
        feed(x, "abcdefghabcdefg");
        due("count(4)", x.count(4), 10);
        due("undo()", x.undo(), 9);
        feed(x, "ab");
        due("count(4)", x.count(4), 10);
        for (int left = 9; left >= 0; left--) {
            due("undo()", x.undo(), left);
        }
        due("undo() of what is lost", x.undo(), STATE);
        same("letters", lettersOf(x), "abcdef");
    }

    private static void undoLeavesTheText() {
        StandingQueries x = with("q;h a;");
        types(x, "q;");
        due("undo()", x.undo(), 0);
        due("count(5)", x.count(5), 2);
        due("adds() with a fault is none to undo", x.adds(), -12);
        due("count(4)", x.count(4), 0);
    }

    private static void query() {
        StandingQueries x = with("q;h ab;h bcd;h abc;n h;q;n a;q;p a c 2;n abcd;", "hab");
        int[][] want = {{4, 0, NONE, 2, 0}, {1, 0, NONE, NONE, 1}, {2, 0, NONE, NONE, 1}};
        for (int q = 0; q < 3; q++) {
            for (int what = 0; what < 5; what++) {
                due("query(" + q + ", " + what + ")", x.query(q, what), want[q][what]);
            }
        }
        x.feeds('c');
        due("query(2, 1)", x.query(2, 1), 1);
        due("query(2, 2)", x.query(2, 2), 4);
        due("query(0, 4)", x.query(0, 4), 1);
        x.feeds('h');
        due("query(2, 2) later", x.query(2, 2), 4);
        x.feeds('a');
        due("query(2, 1)", x.query(2, 1), 1);
        due("query(-1, 0)", x.query(-1, 0), BAD);
        due("query(3, 0)", x.query(3, 0), BAD);
        due("query(0, -1)", x.query(0, -1), BAD);
        due("query(0, 5)", x.query(0, 5), BAD);
        StandingQueries y = with("q;n a;q;h b;n a;", "cbcc");
        due("SINCE of none of the letters", y.query(0, 2), 0);
        due("SINCE", y.query(1, 2), 2);
        y.feeds('a');
        due("SINCE of what is gone", y.query(1, 2), NONE);
    }

    private static void part() {
        StandingQueries x = with("q;h b;n ab;p ab b 3;q;p c c 2;", "abcb");
        int[][] want = {{0, 1, NONE, NONE, 1}, {1, 0, NONE, NONE, 0}, {2, 1, 0, 3, 1}};
        for (int k = 0; k < 3; k++) {
            for (int what = 0; what < 5; what++) {
                due("part(0, " + k + ", " + what + ")", x.part(0, k, what), want[k][what]);
            }
        }
        due("part(1, 0, 4): a hit is not near itself", x.part(1, 0, 4), 0);
        feed(x, "ac");
        due("part(1, 0, 4): too far", x.part(1, 0, 4), 0);
        feed(x, "ac");
        due("part(1, 0, 4): near", x.part(1, 0, 4), 1);
        due("part(-1, 0, 0)", x.part(-1, 0, 0), BAD);
        due("part(2, 0, 0)", x.part(2, 0, 0), BAD);
        due("part(0, -1, 0)", x.part(0, -1, 0), BAD);
        due("part(0, 3, 0)", x.part(0, 3, 0), BAD);
        due("part(0, 0, -1)", x.part(0, 0, -1), BAD);
        due("part(0, 0, 5)", x.part(0, 0, 5), BAD);
        StandingQueries y = with("q;p a b 9;", "acccccccccb");
        due("NEAR of 10 apart", y.part(0, 0, 4), 0);
        StandingQueries z = with("q;p a b 9;", "accccccccb");
        due("NEAR of 9 apart", z.part(0, 0, 4), 1);
        StandingQueries back = with("q;p a b 9;", "ba");
        due("NEAR the other way", back.part(0, 0, 4), 0);
    }

    private static void shortestOf(String text, String row) {
        StandingQueries x = with(text, "hh");
        due("shortest(0, -1) of " + text, x.shortest(0, -1), row == null ? NONE : row.length());
        int size = row == null ? 0 : row.length();
        for (int k = 0; k < size; k++) {
            due("shortest(0, " + k + ") of " + text, x.shortest(0, k), row.charAt(k));
        }
        due("shortest(0, " + size + ") of " + text, x.shortest(0, size), NONE);
        due("shortest(0, max) of " + text, x.shortest(0, Integer.MAX_VALUE), NONE);
    }

    private static void shortest() {
        shortestOf("q;n a;", "");
        shortestOf("q;h ba;h ab;", "aba");
        shortestOf("q;h b;h a;", "ab");
        shortestOf("q;p a b 1;", "ab");
        shortestOf("q;p b a 9;n ba;", "bca");
        shortestOf("q;p b b 9;n bb;", "bab");
        shortestOf("q;p c c 9;n ca;n cb;n cc;", "cdc");
        shortestOf("q;h a;n a;", null);
        shortestOf("q;h abc;n b;", null);
        shortestOf("q;p ab ab 1;", null);
        shortestOf("q;p ab ab 2;", "abab");
        shortestOf("q;p a a 1;h h;", "aah");
        shortestOf("q;p abcdef ghabcd 9;h hhhhhh;h gggggg;", "abcdefghabcdgggggghhhhhh");
        shortestOf("q;h abcdef;h bcdefg;h cdefgh;h defgha;", "abcdefgha");
        shortestOf("q;p abcdef b 1;h bb;h cc;", "abcdefbbcc");
        StandingQueries x = with("q;h a;");
        due("shortest(-1, 0)", x.shortest(-1, 0), BAD);
        due("shortest(1, 0)", x.shortest(1, 0), BAD);
        due("shortest(0, -2)", x.shortest(0, -2), BAD);
        StandingQueries none = with("q;h a;n a;");
        due("shortest(0, -2) of no row", none.shortest(0, -2), BAD);
    }

    private static void moreOf(String text, String letters, int want) {
        due("more(0) of " + text + " behind " + letters, with(text, letters).more(0), want);
    }

    private static void more() {
        moreOf("q;h abc;", "", 3);
        moreOf("q;h abc;", "ab", 1);
        moreOf("q;h abc;", "abb", 3);
        moreOf("q;h abc;", "abcaaa", 0);
        moreOf("q;h abc;h bcd;", "ab", 2);
        moreOf("q;h abc;n ab;", "", NONE);
        moreOf("q;h c;n ab;", "ab", NONE);
        moreOf("q;n ab;", "ab", NONE);
        moreOf("q;n ab;", "ba", 0);
        moreOf("q;p a b 2;", "a", 1);
        moreOf("q;p a b 2;", "ac", 1);
        moreOf("q;p a b 2;", "acc", 2);
        moreOf("q;p a b 2;", "acbc", 0);
        moreOf("q;p a a 2;", "acca", 1);
        moreOf("q;p ab bc 1;n c;", "ab", NONE);
        moreOf("q;h abcdef;h hgfedc;", "a".repeat(40), 11);
        due("more(-1)", with("q;h a;").more(-1), BAD);
        due("more(1)", with("q;h a;").more(1), BAD);
    }

    private static void many() {
        StandingQueries x = with("q;n a;q;h ab;q;h a;n a;q;p a b 1;n ab;q;p a a 1;q;n b;q;h abcdef;h bcdefg;", "aaaa");
        long sevens = 1;
        for (int n = 0; n <= 12; n++) {
            due("many(0, " + n + ")", x.many(0, n), sevens);
            due("many(5, " + n + ")", x.many(5, n), sevens);
            due("many(2, " + n + ")", x.many(2, n), 0);
            due("many(3, " + n + ")", x.many(3, n), 0);
            sevens *= 7;
        }
        due("many(1, 1)", x.many(1, 1), 0);
        due("many(1, 2)", x.many(1, 2), 1);
        due("many(1, 3)", x.many(1, 3), 16);
        due("many(4, 2)", x.many(4, 2), 1);
        due("many(4, 3)", x.many(4, 3), 15);
        due("many(6, 6)", x.many(6, 6), 0);
        due("many(6, 7)", x.many(6, 7), 1);
        due("many(6, 8)", x.many(6, 8), 16);
        due("many(0, -1)", x.many(0, -1), BAD);
        due("many(0, 13)", x.many(0, 13), BAD);
        due("many(-1, 0)", x.many(-1, 0), BAD);
        due("many(7, 0)", x.many(7, 0), BAD);
        StandingQueries wide = with("q;n aaaaaa;");
        due("many(0, 5) of all rows", wide.many(0, 5), 32768);
        due("many(0, 6) of all but one", wide.many(0, 6), 262143);
    }

    private static void word() {
        StandingQueries x = with("q;h b;h ab;n a;p abc hhhhhh 4;q;h ab;n ba;n aca;");
        String[] want = {"a", "ab", "abc", "aca", "b", "ba", "hhhhhh"};
        due("count(1)", x.count(1), want.length);
        for (int w = 0; w < want.length; w++) {
            same("word " + w, wordOf(x, w), want[w]);
            due("word(" + w + ", size)", x.word(w, want[w].length()), NONE);
            due("word(" + w + ", max)", x.word(w, Integer.MAX_VALUE), NONE);
            due("word(" + w + ", -2)", x.word(w, -2), BAD);
        }
        due("word(-1, 0)", x.word(-1, 0), BAD);
        due("word(7, -1)", x.word(7, -1), BAD);
    }

    private static void hit() {
        StandingQueries x = with("q;h aa;h ab;n c;", "aaaab");
        due("hit(0, -1)", x.hit(0, -1), 3);
        for (int k = 0; k < 3; k++) {
            due("hit(0, " + k + ")", x.hit(0, k), k + 1);
        }
        due("hit(0, 3)", x.hit(0, 3), NONE);
        due("hit(1, 0)", x.hit(1, 0), 4);
        due("hit(2, -1)", x.hit(2, -1), 0);
        due("hit(2, 0)", x.hit(2, 0), NONE);
        due("hit(0, -2)", x.hit(0, -2), BAD);
        due("hit(3, -1)", x.hit(3, -1), BAD);
        due("hit(-1, -1)", x.hit(-1, -1), BAD);
        StandingQueries full = with("q;h a;", "a".repeat(40));
        due("hit(0, -1) of 40", full.hit(0, -1), 40);
        due("hit(0, 39)", full.hit(0, 39), 39);
        due("hit(0, 40)", full.hit(0, 40), NONE);
        due("hit(0, max)", full.hit(0, Integer.MAX_VALUE), NONE);
    }

    private static void node() {
        StandingQueries x = with("q;h abc;h bc;n c;n bca;");
        int[][] want = {
            {0, NONE, NONE, NONE, 0}, {1, 'a', 0, 0, 0}, {1, 'b', 0, 0, 0}, {1, 'c', 0, 0, 8},
            {2, 'b', 1, 2, 0}, {2, 'c', 2, 3, 10}, {3, 'c', 4, 5, 11}, {3, 'a', 5, 1, 4},
        };
        due("count(2)", x.count(2), want.length);
        for (int n = 0; n < want.length; n++) {
            for (int what = 0; what < 5; what++) {
                due("node(" + n + ", " + what + ")", x.node(n, what), want[n][what]);
            }
        }
        due("node(-1, 0)", x.node(-1, 0), BAD);
        due("node(8, 0)", x.node(8, 0), BAD);
        due("node(0, -1)", x.node(0, -1), BAD);
        due("node(0, 5)", x.node(0, 5), BAD);
        mostNodes();
    }

    private static void mostNodes() {
        StandingQueries x = new StandingQueries();
        String heads = "abcdefgh";
        int told = 0;
        for (int i = 0; i < 4; i++) {
            StringBuilder text = new StringBuilder("q;");
            for (int k = 0; k < 4; k++, told++) {
                text.append("h ").append(heads.charAt(told / 2)).append(told % 2 == 0 ? "a" : "b").append("cdef;");
            }
            due("adds()", added(x, text.toString()), 1);
        }
        due("count(1)", x.count(1), 16);
        due("count(2)", x.count(2), 1 + 8 + 16 * 5);
        due("node(88, 4)", x.node(88, 4), 1 << 15);
        due("node(89, 4)", x.node(89, 4), BAD);
        feed(x, "abcdefhbcdef");
        due("now(5) with 16 words", x.now(5), 2);
        due("hit(15, 0)", x.hit(15, 0), 11);
        due("word(15, 0)", x.word(15, 0), 'h');
        due("hit(16, -1)", x.hit(16, -1), BAD);
        due("word(16, -1)", x.word(16, -1), BAD);
    }

    private static void next() {
        StandingQueries x = with("q;h abc;h bcd;");
        String[] nodes = {"", "a", "b", "ab", "bc", "abc", "bcd"};
        int[][] want = {{1, 2, 0}, {1, 3, 0}, {1, 2, 4}, {1, 2, 5}, {1, 2, 0}, {1, 2, 0}, {1, 2, 0}};
        for (int n = 0; n < nodes.length; n++) {
            for (int c = 0; c < 3; c++) {
                due("next(" + n + ", " + (97 + c) + ")", x.next(n, 97 + c), want[n][c]);
            }
            due("next(" + n + ", h)", x.next(n, 'h'), 0);
        }
        due("next(4, d)", x.next(4, 'd'), 6);
        due("next(5, d)", x.next(5, 'd'), 6);
        due("next(0, 96)", x.next(0, 96), BAD);
        due("next(0, 105)", x.next(0, 105), BAD);
        due("next(-1, a)", x.next(-1, 'a'), BAD);
        due("next(7, a)", x.next(7, 'a'), BAD);
    }

    private static void letter() {
        StandingQueries x = with("q;h a;", "ahb");
        due("letter(0)", x.letter(0), 'a');
        due("letter(1)", x.letter(1), 'h');
        due("letter(2)", x.letter(2), 'b');
        due("letter(3)", x.letter(3), BAD);
        due("letter(-1)", x.letter(-1), BAD);
        x.cuts();
        due("letter(2) behind cuts()", x.letter(2), BAD);
    }

    private static void nowIs(StandingQueries x, int... want) {
        for (int what = 0; what < 6; what++) {
            due("now(" + what + ") behind " + lettersOf(x), x.now(what), want[what]);
        }
    }

    private static void now() {
        StandingQueries x = with("q;h ab;q;n ab;q;h b;n c;q;p a a 3;");
        nowIs(x, 0, 2, 0, 0, 10, 0);
        x.feeds('a');
        nowIs(x, 1, 2, 0, 0, 10, 1);
        x.feeds('b');
        nowIs(x, 4, 5, 5, 2, 15, 3);
        x.feeds('c');
        nowIs(x, 3, 1, 0, 4, 15, 4);
        x.feeds('a');
        nowIs(x, 1, 9, 8, 0, 15, 5);
        x.cuts();
        nowIs(x, 3, 1, 0, 4, 15, 4);
        due("now(-1)", x.now(-1), BAD);
        due("now(6)", x.now(6), BAD);
        StandingQueries y = new StandingQueries();
        y.feeds('a');
        added(y, "q;h a;q;n a;q;n b;");
        nowIs(y, 1, 5, 1, 2, 7, 1);
    }

    private static void keep() {
        StandingQueries x = with("q;h a;q;h b;", "ab");
        due("keep(-1)", x.keep(-1), BAD);
        due("keep(2)", x.keep(2), BAD);
        due("keep(0)", x.keep(0), 2);
        due("count(4)", x.count(4), 3);
        due("back(1)", x.back(1), STATE);
        x.drops(0);
        due("keep(1)", x.keep(1), 1);
        due("keep(0) again", x.keep(0), 1);
        due("drops(0)", x.drops(0), 0);
        due("back(0)", x.back(0), 1);
        due("keep(0) on a new object", new StandingQueries().keep(0), 0);
    }

    private static void back() {
        StandingQueries x = with("q;h a;q;p b c 4;", "abc");
        x.keep(1);
        x.clear();
        String kept = held(x);
        x.undo();
        x.feeds('h');
        added(x, "q;h hhh;");
        x.drops(0);
        types(x, "q;");
        due("back(-1)", x.back(-1), BAD);
        due("back(2)", x.back(2), BAD);
        due("back(0)", x.back(0), STATE);
        due("count(4)", x.count(4) > 0 ? 1 : 0, 1);
        due("back(1)", x.back(1), 2);
        same("what is held", held(x), kept);
        due("count(4)", x.count(4), 0);
        due("undo()", x.undo(), STATE);
        due("count(5)", x.count(5), 2);
        due("count(1)", x.count(1), 3);
        due("now(1)", x.now(1), 3);
        due("now(0)", x.now(0), 3);
        x.feeds('a');
        due("undo() behind back()", x.undo(), 0);
        due("back(1) again", x.back(1), 2);
        x.clear();
        added(x, "");
        x.cuts();
        due("the image stays as it was", x.back(1), 2);
        same("what is held", held(x), kept);
    }

    private static void count() {
        StandingQueries x = with("q;h ab;n a;", "abc");
        types(x, "qqqqq");
        int[] want = {1, 2, 3, 3, 4, 5};
        for (int what = 0; what < 6; what++) {
            due("count(" + what + ")", x.count(what), want[what]);
        }
        due("count(-1)", x.count(-1), BAD);
        due("count(6)", x.count(6), BAD);
    }

    private static void constants() {
        due("BAD", StandingQueries.BAD, BAD);
        due("STATE", StandingQueries.STATE, STATE);
        due("FULL", StandingQueries.FULL, FULL);
        due("NONE", StandingQueries.NONE, NONE);
    }

    /** Numbers far from any that is told: each call refuses them, and nothing changes. */
    private static void farNumbers() {
        StandingQueries x = with("q;h abc;p ab c 9;q;n hhhhhh;", "abcabc");
        x.keep(0);
        types(x, "q;");
        String before = all(x);
        for (int far : new int[] {Integer.MIN_VALUE, Integer.MIN_VALUE + 1, -1000, 1000, 1 << 30, Integer.MAX_VALUE}) {
            long[] answers = {
                x.type(far), x.drops(far), x.feeds(far), x.query(far, 0), x.query(0, far), x.query(far, far), x.part(far, 0, 0),
                x.part(0, far, 0), x.part(0, 0, far), x.shortest(far, -1), x.more(far), x.many(far, 0), x.many(0, far),
                x.word(far, -1), x.hit(far, -1), x.node(far, 0), x.node(0, far), x.next(far, 'a'), x.next(0, far), x.letter(far),
                x.now(far), x.keep(far), x.back(far), x.count(far)};
            for (int i = 0; i < answers.length; i++) {
                due("call " + i + " with " + far, answers[i], BAD);
            }
            int behind = far < 0 ? BAD : NONE;
            due("shortest(0, " + far + ")", x.shortest(0, far), behind);
            due("word(0, " + far + ")", x.word(0, far), behind);
            due("hit(0, " + far + ")", x.hit(0, far), behind);
        }
        same("all", all(x), before);
    }

    public static void main(String[] args) {
        check("constants", PromiseTests::constants);
        check("1 a new object", PromiseTests::newObject);
        check("2 type", PromiseTests::type);
        check("3 clear", PromiseTests::clear);
        check("4 adds", PromiseTests::adds);
        check("5 drops", PromiseTests::drops);
        check("6 feeds", PromiseTests::feeds);
        check("7 cuts", PromiseTests::cuts);
        check("8 undo", PromiseTests::undo);
        check("9 query", PromiseTests::query);
        check("10 part", PromiseTests::part);
        check("11 shortest", PromiseTests::shortest);
        check("12 more", PromiseTests::more);
        check("13 many", PromiseTests::many);
        check("14 word", PromiseTests::word);
        check("15 hit", PromiseTests::hit);
        check("16 node", PromiseTests::node);
        check("17 next", PromiseTests::next);
        check("18 letter", PromiseTests::letter);
        check("19 now", PromiseTests::now);
        check("20 keep", PromiseTests::keep);
        check("21 back", PromiseTests::back);
        check("22 count", PromiseTests::count);
        check("far numbers", PromiseTests::farNumbers);
        end();
    }
}
