/** Each sentence of the document that names a boundary of what is done, undone and kept, with a case of its own. */
public final class ChangeBoundaryTests extends Cases {
    private static final String FORTY = "abcdefgh".repeat(5);

    // ---- a new object

    private static void newObject() {
        StandingQueries x = new StandingQueries();
        int[] counts = {0, 0, 1, 0, 0, 0};
        for (int what = 0; what < counts.length; what++) {
            due("count(" + what + ")", x.count(what), counts[what]);
            due("now(" + what + ")", x.now(what), 0);
        }
        due("letter(0)", x.letter(0), BAD);
        due("query(0, 0)", x.query(0, 0), BAD);
        due("part(0, 0, 0)", x.part(0, 0, 0), BAD);
        due("shortest(0, -1)", x.shortest(0, -1), BAD);
        due("more(0)", x.more(0), BAD);
        due("many(0, 0)", x.many(0, 0), BAD);
        due("word(0, -1)", x.word(0, -1), BAD);
        due("hit(0, -1)", x.hit(0, -1), BAD);
    }

    private static void objectsApart() {
        StandingQueries x = with("q;h a;", "ab");
        x.keep(0);
        types(x, "q;");
        StandingQueries other = new StandingQueries();
        due("count(0)", other.count(0), 0);
        due("count(3)", other.count(3), 0);
        due("count(5)", other.count(5), 0);
        due("back(0)", other.back(0), STATE);
        due("undo()", other.undo(), STATE);
    }

    /** The last of the 512 calls is answered as the first ones are. */
    private static void lastOf512Calls() {
        String text = "q;h a;n b;p a a 1;";
        StandingQueries x = new StandingQueries();
        types(x, text);
        due("adds()", x.adds(), 1);
        for (int made = text.length() + 1; made < 511; made++) {
            boolean feeds = made % 2 == 1;
            due("call " + (made + 1), feeds ? x.feeds('a') : x.cuts(), feeds ? 1 : 'a');
        }
        due("call 512", x.count(4), 10);
    }

    // ---- drops

    private static void dropsBad() {
        StandingQueries x = new StandingQueries();
        due("drops(0) of none", x.drops(0), BAD);
        x = with("q;h a;q;h b;");
        due("drops(-1)", x.drops(-1), BAD);
        due("drops(2)", x.drops(2), BAD);
        due("drops(8)", x.drops(8), BAD);
        due("count(0)", x.count(0), 2);
        due("count(4)", x.count(4), 1);
        due("drops(1)", x.drops(1), 1);
        due("drops(1) of what went", x.drops(1), BAD);
        due("drops(0)", x.drops(0), 0);
        due("drops(0) of what went", x.drops(0), BAD);
    }

    private static void droppedAt(int q, String left) {
        StandingQueries x = with("q;h a;n b;h c;n d;q;p ab ba 3;q;n h;n g;", "ah");
        due("drops(" + q + ")", x.drops(q), 2);
        same("queries behind drops(" + q + ")", queriesOf(x), left);
        same("letters", lettersOf(x), "ah");
    }

    private static void dropsMovesThoseBehind() {
        droppedAt(0, "q;p ab ba 3;q;n h;n g;");
        droppedAt(1, "q;h a;n b;h c;n d;q;n h;n g;");
        droppedAt(2, "q;h a;n b;h c;n d;q;p ab ba 3;");
        StandingQueries x = with("q;h a;q;h b;q;h c;q;h d;q;h e;q;h f;q;h g;q;p h h 9;");
        due("drops(0) of 8", x.drops(0), 7);
        same("queries", queriesOf(x), "q;h b;q;h c;q;h d;q;h e;q;h f;q;h g;q;p h h 9;");
        due("query(7, 0)", x.query(7, 0), BAD);
    }

    private static void dropsTheLastOne() {
        StandingQueries x = with("q;h abcdef;", "abcdef");
        due("drops(0)", x.drops(0), 0);
        int[] counts = {0, 0, 1, 6, 8, 0};
        int[] now = {0, 0, 0, 0, 0, 0};
        for (int what = 0; what < counts.length; what++) {
            due("count(" + what + ")", x.count(what), counts[what]);
            due("now(" + what + ")", x.now(what), now[what]);
        }
        due("word(0, -1)", x.word(0, -1), BAD);
        due("node(1, 0)", x.node(1, 0), BAD);
        due("next(0, a)", x.next(0, 'a'), 0);
    }

    // ---- feeds, cuts

    private static void feedsBad() {
        StandingQueries x = with("q;h a;h h;");
        for (int c : new int[] {96, 105, 0, -1, 'A', 'H', 'z', 97 + 256, 97 - 256, Integer.MIN_VALUE, Integer.MAX_VALUE}) {
            due("feeds(" + c + ")", x.feeds(c), BAD);
        }
        due("count(3)", x.count(3), 0);
        due("count(4)", x.count(4), 1);
        due("feeds(97)", x.feeds(97), 1);
        due("feeds(104)", x.feeds(104), 2);
    }

    private static void feedsFull() {
        StandingQueries x = with("q;h gh;");
        feed(x, FORTY.substring(0, 39));
        due("feeds(h), the 40th", x.feeds('h'), 2);
        due("feeds(h), one more", x.feeds('h'), FULL);
        due("feeds(a), one more", x.feeds('a'), FULL);
        due("count(3)", x.count(3), 40);
        due("now(0)", x.now(0), 2);
        due("count(4)", x.count(4), 10);
        same("letters", lettersOf(x), FORTY);
        due("cuts()", x.cuts(), 'h');
        due("feeds(b) where one went", x.feeds('b'), 0);
        due("feeds(b), one more", x.feeds('b'), FULL);
    }

    private static void feedsBadAheadOfFull() {
        StandingQueries x = new StandingQueries();
        feed(x, FORTY);
        due("feeds(96)", x.feeds(96), BAD);
        due("feeds(105)", x.feeds(105), BAD);
        due("feeds(97)", x.feeds(97), FULL);
    }

    private static void feedsWithoutWords() {
        StandingQueries x = new StandingQueries();
        for (char c = 'a'; c <= 'h'; c++) {
            due("feeds(" + c + ")", x.feeds(c), 0);
        }
        due("count(3)", x.count(3), 8);
        due("now(5)", x.now(5), 0);
    }

    private static void cutsNone() {
        StandingQueries x = with("q;h a;");
        due("cuts() of none", x.cuts(), STATE);
        due("count(4)", x.count(4), 1);
        x.feeds('h');
        due("cuts() of one", x.cuts(), 'h');
        due("count(3)", x.count(3), 0);
        due("cuts() of none again", x.cuts(), STATE);
        due("count(4)", x.count(4), 3);
        due("now(0)", x.now(0), 0);
    }

    private static void cutsOfForty() {
        StandingQueries x = with("q;h fgh;", FORTY);
        for (int n = 40; n > 0; n--) {
            due("cuts() of " + n, x.cuts(), FORTY.charAt(n - 1));
            due("count(3)", x.count(3), n - 1);
        }
        due("hit(0, -1)", x.hit(0, -1), 0);
        due("cuts()", x.cuts(), STATE);
    }

    // ---- undo

    private static void undoNone() {
        StandingQueries x = new StandingQueries();
        due("undo() of none", x.undo(), STATE);
        x.feeds('a');
        due("undo() of one", x.undo(), 0);
        due("undo() of none again", x.undo(), STATE);
        due("count(3)", x.count(3), 0);
        due("count(4)", x.count(4), 0);
    }

    private static void undoTen() {
        StandingQueries x = new StandingQueries();
        for (int n = 1; n <= 12; n++) {
            x.feeds('a');
            due("count(4) behind " + n, x.count(4), Math.min(n, 10));
        }
        for (int left = 9; left >= 0; left--) {
            due("undo()", x.undo(), left);
            due("count(3)", x.count(3), left + 2);
        }
        due("undo() of the eleventh", x.undo(), STATE);
        due("count(3)", x.count(3), 2);
    }

    private static void undoOfExactlyTen() {
        StandingQueries x = new StandingQueries();
        feed(x, "abcdefgh" + "ab");
        for (int left = 9; left >= 0; left--) {
            due("undo()", x.undo(), left);
        }
        due("count(3)", x.count(3), 0);
        due("undo()", x.undo(), STATE);
    }

    /** The place of the latest goes round, back and round again. */
    private static void undoGoesRound() {
        StandingQueries x = new StandingQueries();
        feed(x, "abcdefghabcdefg");
        for (int i = 0; i < 7; i++) {
            x.undo();
        }
        same("letters", lettersOf(x), "abcdefgh");
        due("count(4)", x.count(4), 3);
        feed(x, "hgfedcba");
        due("count(4)", x.count(4), 10);
        for (int i = 0; i < 10; i++) {
            x.undo();
        }
        same("letters", lettersOf(x), "abcdef");
        due("undo()", x.undo(), STATE);
        feed(x, "a");
        due("undo()", x.undo(), 0);
        same("letters", lettersOf(x), "abcdef");
    }

    private static void undoOfEach() {
        StandingQueries x = with("q;h ab;q;p a b 1;", "abc");
        String before = held(x);
        x.feeds('d');
        due("undo() of FED", x.undo(), 4);
        same("held", held(x), before);
        x.cuts();
        due("undo() of CUT", x.undo(), 4);
        same("held", held(x), before);
        due("adds()", added(x, "q;n h;"), 1);
        due("undo() of ADDED", x.undo(), 4);
        same("held", held(x), before);
        x.drops(0);
        due("undo() of DROPPED", x.undo(), 4);
        same("held", held(x), before);
    }

    private static void undoOfLettersWrittenOver() {
        StandingQueries x = with("q;h ab;", "ab");
        x.cuts();
        x.feeds('c');
        due("undo() of FED", x.undo(), 4);
        same("letters", lettersOf(x), "a");
        due("undo() of CUT", x.undo(), 3);
        same("letters", lettersOf(x), "ab");
        due("now(1)", x.now(1), 1);
    }

    private static void undoAtTheMost() {
        String before = "q;h a;h b;h c;h d;q;h e;h f;h g;h h;q;h aa;h ab;h ac;h ad;q;h ae;h af;h ag;p ah ah 1;q;n a;q;n b;q;n c;q;n d;";
        StandingQueries x = with(before, FORTY);
        x.cuts();
        due("undo() of a CUT from 40", x.undo(), 9);
        due("count(3)", x.count(3), 40);
        due("letter(39)", x.letter(39), 'h');
        due("feeds(a)", x.feeds('a'), FULL);
        x.drops(3);
        due("count(1)", x.count(1), 12);
        due("undo() of a DROPPED from 8", x.undo(), 9);
        same("queries", queriesOf(x), before);
        x.drops(7);
        due("adds() of another eighth", added(x, "q;n a;h b;"), 1);
        due("undo() of ADDED", x.undo(), 9);
        due("undo() of DROPPED", x.undo(), 8);
        same("queries", queriesOf(x), before);
        due("count(1)", x.count(1), 16);
    }

    private static void undoOfNoneAdded() {
        StandingQueries x = with("q;h a;");
        due("adds() of none", x.adds(), 0);
        due("count(4)", x.count(4), 2);
        due("undo()", x.undo(), 1);
        due("count(0)", x.count(0), 1);
        due("undo()", x.undo(), 0);
        due("count(0)", x.count(0), 0);
    }

    private static void undoOfNothingElse() {
        StandingQueries x = with("q;h a;", "a");
        types(x, "q;");
        x.adds();
        x.keep(0);
        x.drops(1);
        x.feeds('i');
        x.back(1);
        due("count(4)", x.count(4), 2);
        x.clear();
        due("undo() of FED", x.undo(), 1);
        due("count(3)", x.count(3), 0);
        due("undo() of ADDED", x.undo(), 0);
        due("undo() is none to be UNDONE", x.undo(), STATE);
        due("count(3)", x.count(3), 0);
    }

    private static void undoLeavesTheText() {
        StandingQueries x = with("q;h a;");
        types(x, "q;n b;");
        due("undo()", x.undo(), 0);
        due("count(5)", x.count(5), 6);
        due("adds()", x.adds(), 1);
        due("undo() of it", x.undo(), 0);
        due("count(5)", x.count(5), 0);
    }

    // ---- images

    private static void keepBad() {
        StandingQueries x = with("q;h a;");
        due("keep(-1)", x.keep(-1), BAD);
        due("keep(2)", x.keep(2), BAD);
        due("back(0)", x.back(0), STATE);
        due("back(1)", x.back(1), STATE);
        due("keep(0)", x.keep(0), 1);
        x.drops(0);
        due("keep(1)", x.keep(1), 0);
        due("keep(-1)", x.keep(-1), BAD);
        due("keep(2)", x.keep(2), BAD);
        due("back(0)", x.back(0), 1);
        due("back(1)", x.back(1), 0);
    }

    private static void keepEmptyAndFull() {
        StandingQueries x = new StandingQueries();
        due("keep(0) of nothing", x.keep(0), 0);
        String most = "q;h a;q;h b;q;h c;q;h d;q;h e;q;h f;q;h g;q;p h a 9;";
        due("adds() of 8", added(x, most), 8);
        feed(x, FORTY);
        due("keep(1) of 8", x.keep(1), 8);
        due("back(0)", x.back(0), 0);
        due("count(1)", x.count(1), 0);
        due("count(2)", x.count(2), 1);
        due("count(3)", x.count(3), 0);
        due("adds() of another 8", added(x, "q;h a;n b;".repeat(8)), 8);
        due("back(1)", x.back(1), 8);
        same("queries", queriesOf(x), most);
        same("letters", lettersOf(x), FORTY);
        due("feeds(a)", x.feeds('a'), FULL);
    }

    private static void keepAgain() {
        StandingQueries x = with("q;h a;", "a");
        x.keep(0);
        added(x, "q;h b;");
        x.feeds('b');
        due("keep(0) again", x.keep(0), 2);
        x.drops(0);
        x.cuts();
        due("back(0)", x.back(0), 2);
        same("letters", lettersOf(x), "ab");
        due("back(1)", x.back(1), STATE);
    }

    private static void keepChangesNothing() {
        StandingQueries x = with("q;h a;", "ab");
        types(x, "q");
        String before = all(x);
        x.keep(0);
        x.keep(1);
        same("all", all(x), before);
        due("undo()", x.undo(), 2);
    }

    private static void imageStaysAsKept() {
        StandingQueries x = with("q;h a;p a b 2;", "ab");
        x.keep(0);
        String kept = held(x);
        x.back(0);
        x.feeds('c');
        added(x, "q;n c;");
        x.drops(0);
        x.undo();
        due("back(0)", x.back(0), 1);
        same("held", held(x), kept);
        x.cuts();
        x.feeds('h');
        due("back(0) from letters written over", x.back(0), 1);
        same("held", held(x), kept);
    }

    private static void backBadAheadOfState() {
        StandingQueries x = new StandingQueries();
        due("back(-1)", x.back(-1), BAD);
        due("back(2)", x.back(2), BAD);
        due("back(0)", x.back(0), STATE);
        due("back(1)", x.back(1), STATE);
    }

    private static void backState() {
        StandingQueries x = with("q;h a;", "a");
        types(x, "q;");
        String before = all(x);
        due("back(0)", x.back(0), STATE);
        due("back(1)", x.back(1), STATE);
        due("back(-1)", x.back(-1), BAD);
        due("back(2)", x.back(2), BAD);
        same("all", all(x), before);
        x.keep(1);
        due("back(0), none but the other was kept", x.back(0), STATE);
        due("count(4)", x.count(4), 2);
        due("back(1)", x.back(1), 1);
    }

    private static void nothingUndoneBehindBack() {
        StandingQueries x = with("q;h a;", "abcdefghabcd");
        x.keep(0);
        due("back(0)", x.back(0), 1);
        due("count(4)", x.count(4), 0);
        due("undo()", x.undo(), STATE);
        due("count(3)", x.count(3), 12);
        x.feeds('h');
        due("undo() of what came since", x.undo(), 0);
        due("undo()", x.undo(), STATE);
        due("count(3)", x.count(3), 12);
    }

    private static void imagesKeepNothingElse() {
        StandingQueries x = with("q;h a;");
        types(x, "q;");
        x.keep(0);
        types(x, "h b;");
        due("back(0)", x.back(0), 1);
        due("count(5)", x.count(5), 6);
        due("adds()", x.adds(), 1);
        due("back(0)", x.back(0), 1);
        due("count(5)", x.count(5), 0);
    }

    // ---- refusals

    private static void refusedAndNothingChanges() {
        StandingQueries x = with("q;h a;", "ab");
        x.keep(1);
        types(x, "q;h");
        String before = all(x);
        long[] refused = {x.type(256), x.adds(), x.drops(-1), x.drops(1), x.feeds('i'), x.back(0), x.back(2), x.keep(2),
            x.query(1, 0), x.part(0, 1, 0), x.many(0, 13), x.next(0, 'i')};
        long[] want = {BAD, -13, BAD, BAD, BAD, STATE, BAD, BAD, BAD, BAD, BAD, BAD};
        for (int i = 0; i < want.length; i++) {
            due("refusal " + i, refused[i], want[i]);
        }
        same("all", all(x), before);
        due("back(1)", x.back(1), 1);
        same("letters of the IMAGE", lettersOf(x), "ab");
    }

    private static void refusedWhereNothingIs() {
        StandingQueries x = new StandingQueries();
        long[] refused = {x.drops(0), x.cuts(), x.undo(), x.back(0), x.back(1)};
        long[] want = {BAD, STATE, STATE, STATE, STATE};
        for (int i = 0; i < want.length; i++) {
            due("refusal " + i, refused[i], want[i]);
        }
        same("all", all(x), all(new StandingQueries()));
    }

    private static void refusedWhereAllIsFull() {
        StandingQueries x = with("q;h h;", FORTY);
        types(x, "q;h a;" + " ".repeat(144));
        String before = all(x);
        due("feeds(a)", x.feeds('a'), FULL);
        due("type(120)", x.type('x'), FULL);
        same("all", all(x), before);
        due("adds()", x.adds(), 1);
    }

    static void run() {
        check("a new object: no QUERIES, no letters", ChangeBoundaryTests::newObject);
        check("a new object is apart from others", ChangeBoundaryTests::objectsApart);
        check("at most 512 calls", ChangeBoundaryTests::lastOf512Calls);
        check("drops: BAD", ChangeBoundaryTests::dropsBad);
        check("drops: those behind it are one less", ChangeBoundaryTests::dropsMovesThoseBehind);
        check("drops: the last one that is there", ChangeBoundaryTests::dropsTheLastOne);
        check("feeds: BAD", ChangeBoundaryTests::feedsBad);
        check("feeds: FULL", ChangeBoundaryTests::feedsFull);
        check("feeds: BAD ahead of FULL", ChangeBoundaryTests::feedsBadAheadOfFull);
        check("feeds: without WORDS", ChangeBoundaryTests::feedsWithoutWords);
        check("cuts: STATE: there is none", ChangeBoundaryTests::cutsNone);
        check("cuts: from 40 to none", ChangeBoundaryTests::cutsOfForty);
        check("undo: STATE: none", ChangeBoundaryTests::undoNone);
        check("undo: 10 are known, older ones are lost", ChangeBoundaryTests::undoTen);
        check("undo: the tenth is known", ChangeBoundaryTests::undoOfExactlyTen);
        check("undo: round and round", ChangeBoundaryTests::undoGoesRound);
        check("undo: FED, CUT, ADDED, DROPPED", ChangeBoundaryTests::undoOfEach);
        check("undo: letters written over", ChangeBoundaryTests::undoOfLettersWrittenOver);
        check("undo: from the most to the most", ChangeBoundaryTests::undoAtTheMost);
        check("undo: ADDED of no QUERY", ChangeBoundaryTests::undoOfNoneAdded);
        check("undo: of nothing else", ChangeBoundaryTests::undoOfNothingElse);
        check("undo: QUERIES, LETTERS alone", ChangeBoundaryTests::undoLeavesTheText);
        check("keep: BAD", ChangeBoundaryTests::keepBad);
        check("keep: nothing and the most", ChangeBoundaryTests::keepEmptyAndFull);
        check("keep: over what was kept", ChangeBoundaryTests::keepAgain);
        check("keep: nothing is changed", ChangeBoundaryTests::keepChangesNothing);
        check("back: the IMAGE stays", ChangeBoundaryTests::imageStaysAsKept);
        check("back: BAD ahead of STATE", ChangeBoundaryTests::backBadAheadOfState);
        check("back: STATE: none was kept", ChangeBoundaryTests::backState);
        check("back: nothing can be UNDONE behind it", ChangeBoundaryTests::nothingUndoneBehindBack);
        check("IMAGES keep nothing else", ChangeBoundaryTests::imagesKeepNothingElse);
        check("refused, and nothing changes", ChangeBoundaryTests::refusedAndNothingChanges);
        check("refused where nothing is", ChangeBoundaryTests::refusedWhereNothingIs);
        check("refused where all is FULL", ChangeBoundaryTests::refusedWhereAllIsFull);
    }

    public static void main(String[] args) {
        run();
        end();
    }
}
