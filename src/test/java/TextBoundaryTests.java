/** Each sentence of the document that names a boundary of THE TEXT and of what it tells, with a case of its own. */
public final class TextBoundaryTests extends Cases {
    private static final String SIXTEEN = "q;h a;h b;h c;h d;q;h e;h f;h g;h h;q;h aa;h ab;h ac;h ad;q;h ae;h af;h ag;h ah;";
    private static final String EIGHT = "q;h a;q;h b;q;h c;q;h d;q;h e;q;h f;q;h g;q;h h;";

    private static void reads(String text, int told) {
        due("adds() of '" + text + "'", added(new StandingQueries(), text), told);
    }

    private static void faultOf(String text, int fault) {
        reads(text, -10 - fault);
    }

    private static void faultBehind(StandingQueries x, String text, int fault) {
        due("adds() of '" + text + "' behind others", added(x, text), -10 - fault);
    }

    // ---- words, queries, parts

    private static void wordSizes() {
        reads("q;h a;n b;p c d 1;", 1);
        reads("q;h abcdef;n bcdefg;p cdefgh hgfedc 1;", 1);
        faultOf("q;h abcdefg;", 4);
        faultOf("q;n aaaaaaa;", 4);
        faultOf("q;p abcdefg a 1;", 4);
        faultOf("q;p a abcdefg 1;", 6);
        faultOf("q;h aaaaaaaaaaaaaaaaaaaaaaaaaaaaaaaaaaaaaaaaaaaaaaaaaaaaaaaa;", 4);
        faultOf("q;h ;", 4);
        faultOf("q;p ; a 1;", 4);
        faultOf("q;p a ; 1;", 6);
        StandingQueries x = with("q;h a;h abcdef;");
        due("word(0, -1)", x.word(0, -1), 1);
        due("word(1, -1)", x.word(1, -1), 6);
    }

    private static void wordLetters() {
        StandingQueries x = with("q;h abcd;h efgh;");
        same("words", wordsOf(x), "abcd efgh");
        for (char c = 'i'; c <= 'z'; c++) {
            faultOf("q;h " + c + ";", 4);
            faultOf("q;n a" + c + ";", 4);
            faultOf("q;h aaaaa" + c + ";", 4);
            faultOf("q;p a" + c + "a a 1;", 4);
            faultOf("q;p a " + c + " 1;", 6);
        }
        faultOf("q;h " + (char) ('a' - 1) + ";", 4);
        faultOf("q;h A;", 4);
        faultOf("q;h H;", 4);
    }

    private static void eightQueries() {
        reads(EIGHT, 8);
        faultOf(EIGHT + "q;h a;", 48);
        StandingQueries x = with("q;h a;q;h b;q;h c;q;h d;q;h e;q;h f;q;h g;");
        faultBehind(x, "q;h h;q;h a;", 6);
        due("count(0)", x.count(0), 7);
        due("adds() of the eighth", added(x, "q;h h;"), 1);
        due("query(7, 0)", x.query(7, 0), 1);
        due("query(8, 0)", x.query(8, 0), BAD);
        faultBehind(x, "q;h a;", 0);
        due("drops(3)", x.drops(3), 7);
        due("adds() where one went", added(x, "q;n a;"), 1);
        due("part(7, 0, 0)", x.part(7, 0, 0), 1);
    }

    private static void oneToFourParts() {
        for (int parts = 1; parts <= 4; parts++) {
            StandingQueries x = with("q;" + "h ab;".repeat(parts));
            due("query(0, 0)", x.query(0, 0), parts);
            due("part(0, " + (parts - 1) + ", 0)", x.part(0, parts - 1, 0), 0);
            due("part(0, " + parts + ", 0)", x.part(0, parts, 0), BAD);
        }
        faultOf("q;" + "h ab;".repeat(5), 22);
        faultOf("q;", 2);
        StandingQueries x = with(("q;" + "n h;".repeat(4)).repeat(8));
        due("count(0) with 4 each", x.count(0), 8);
        due("query(7, 0)", x.query(7, 0), 4);
        due("part(7, 3, 0)", x.part(7, 3, 0), 1);
    }

    private static void reachOneToNine() {
        for (int d = 1; d <= 9; d++) {
            StandingQueries x = with("q;p a b " + d + ";");
            due("part(0, 0, 3)", x.part(0, 0, 3), d);
        }
        faultOf("q;p a b 0;", 8);
        faultOf("q;p a b 10;", 8);
    }

    private static void oneNearInAQuery() {
        reads("q;p a b 1;n a;n a;n a;", 1);
        reads("q;n a;n a;n a;p a b 1;", 1);
        reads("q;p a b 1;q;p a b 1;q;p a b 1;", 3);
        faultOf("q;p a b 1;p c d 1;", 10);
        StandingQueries x = with("q;p a b 1;");
        due("adds() of one more in a QUERY of its own", added(x, "q;h a;p a b 1;"), 1);
        x.drops(1);
        due("adds() of one more where one went", added(x, "q;h a;p a b 1;"), 1);
    }

    private static void sixteenWords() {
        StandingQueries x = with(SIXTEEN);
        due("count(1)", x.count(1), 16);
        faultBehind(x, "q;h hh;", 4);
        due("adds() of those that are there", added(x, "q;h a;n ah;p aa h 2;"), 1);
        due("count(1)", x.count(1), 16);
        due("drops(0): a is asked for by another", x.drops(0), 4);
        due("count(1)", x.count(1), 13);
        due("adds() of three", added(x, "q;h hh;h hg;n hf;"), 1);
        due("count(1)", x.count(1), 16);
        faultBehind(x, "q;h a;h hh;h he;", 13);
        due("undo()", x.undo() >= 0 ? 1 : 0, 1);
        due("adds() of other three", added(x, "q;h he;n hd;h he;n hc;"), 1);
        due("count(1)", x.count(1), 16);
    }

    private static void wordsByLetters() {
        StandingQueries x = with("q;h h;h b;h ab;h a;q;h aaaaaa;h aaaaa;h ba;h abhhhh;q;h ac;");
        same("words", wordsOf(x), "a aaaaa aaaaaa ab abhhhh ac b ba h");
    }

    // ---- bytes and tokens

    private static void textOf150() {
        String parts = "q;" + "h abcdef;".repeat(4);
        String text = parts + parts + parts + "q;h ab;n ba;" + " ".repeat(18) + "n abc;";
        due("bytes", text.length(), 150);
        StandingQueries x = new StandingQueries();
        types(x, text);
        due("count(5)", x.count(5), 150);
        due("type(59)", x.type(';'), FULL);
        due("adds() up to the last byte", x.adds(), 4);
        due("query(3, 0)", x.query(3, 0), 3);
        due("count(5)", x.count(5), 0);
        due("type(113) then", x.type('q'), 1);
    }

    private static void blanksBetween() {
        reads("   q   ;   h   a   ;   p   a   b   1   ;   ", 1);
        reads("q;p a b1;h c;", 1);
        reads(" ".repeat(150), 0);
        faultOf("q;h ab cd;", 7);
        faultOf("q;p ab 1;", 7);
        faultOf("q;p a b 1 0;", 10);
        for (int c = 0; c < 256; c++) {
            due("adds() with " + c + " for a blank", added(new StandingQueries(), "q;h" + (char) c + "a;") == 1 ? 1 : 0, c == 32 ? 1 : 0);
        }
        faultOf("q;h\ta;", 3);
        faultOf("q;\nh a;", 2);
        faultOf("q;h" + (char) 160 + "a;", 3);
    }

    private static void itemsEndBySemicolon() {
        reads("q;h a;n b;p a b 1;", 1);
        faultOf("q h a;", 2);
        faultOf("q;h a n b;", 6);
        faultOf("q;n a h b;", 6);
        faultOf("q;p a b 1 n b;", 10);
        faultOf("q;h a;;", 6);
        faultOf("q;;h a;", 2);
        faultOf("q:h a;", 1);
    }

    private static void lettersSideBySide() {
        faultOf("qh a;", 0);
        faultOf("q;ha;", 2);
        faultOf("q;pa b 1;", 2);
        faultOf("q;h a;hn a;", 6);
        reads("q;p a b2;", 1);
        StandingQueries x = with("q;p abc abcdef 3;");
        same("words", wordsOf(x), "abc abcdef");
    }

    // ---- faults

    private static void beginsNoItem() {
        for (char c = 'a'; c <= 'z'; c++) {
            if ("qhnp".indexOf(c) < 0) {
                faultOf("  " + c + ";", 2);
                faultOf("q;h a;" + c + " a;", 6);
            }
        }
        faultOf("1;", 0);
        faultOf(";", 0);
        faultOf("q;h a; 1;", 7);
        faultOf("q;h a;qq;", 6);
        faultOf("q;h a;nn a;", 6);
        faultOf("q;h a;h b;h c;h d;x", 18);
    }

    private static void queryWithoutParts() {
        faultOf("q;q;h a;", 2);
        faultOf("q;h a;q; q;h a;", 9);
        StandingQueries x = with("q;h a;");
        faultBehind(x, "q;q;", 2);
        faultOf("q;h a;q;h a;q;h a;q;h a;q;h a;q;h a;q;h a;q;q;", 44);
    }

    private static void ninthQuery() {
        faultOf(EIGHT + "q;h a;", 48);
        faultOf(EIGHT + "   q", 51);
        StandingQueries x = with(EIGHT);
        faultBehind(x, "q;h a;", 0);
        faultBehind(x, "  q", 2);
        due("adds() of none", added(x, "  "), 0);
        due("count(0)", x.count(0), 8);
    }

    private static void partAheadOfQuery() {
        faultOf("h a;", 0);
        faultOf(" n a;", 1);
        faultOf("p a b 1;q;h a;", 0);
        StandingQueries x = with("q;h a;");
        faultBehind(x, "h b;", 0);
        faultBehind(x, "n b;", 0);
        faultBehind(x, "  p a b 1;", 2);
        due("query(0, 0)", x.query(0, 0), 1);
    }

    private static void fifthPart() {
        faultOf("q;h a;n b;h c;n d;h e;", 18);
        faultOf("q;h a;h a;h a;h a;n a;", 18);
        faultOf("q;h a;h a;h a;h a; p a b 1;", 19);
        faultOf("q;p a b 1;h a;h a;h a;h", 22);
        faultOf("q;h a;q;h a;h a;h a;h a;h a;", 24);
        reads("q;h a;h a;h a;h a;q;h a;", 2);
    }

    private static void secondNear() {
        faultOf("q;p a b 1;p a b 1;", 10);
        faultOf("q;h a;p a b 1;n c; p", 19);
        faultOf("q;p a b 1;q;p a b 1;p a b 1;", 20);
        reads("q;p a b 1;q;p a b 1;", 2);
    }

    private static void wordThatIsNone() {
        String[] none = {"i", "abcdefg", "qq", "1", "99", ";", "hz"};
        for (String word : none) {
            faultOf("q;h " + word + ";", 4);
            faultOf("q;n " + word + ";", 4);
            faultOf("q;p " + word + " a 1;", 4);
            faultOf("q;p a " + word + " 1;", 6);
        }
    }

    private static void seventeenthWord() {
        faultBehind(with(SIXTEEN), "q;h ba;", 4);
        faultBehind(with(SIXTEEN), "q;n ba;", 4);
        faultBehind(with(SIXTEEN), "q;p ba a 1;", 4);
        faultBehind(with(SIXTEEN), "q;p a ba 1;", 6);
        faultOf(SIXTEEN + "q;h a;n ba;", SIXTEEN.length() + 8);
        reads(SIXTEEN + "q;p a ah 9;n af;h c;", 5);
        StandingQueries x = with(SIXTEEN.substring(0, SIXTEEN.length() - 5));
        due("count(1)", x.count(1), 15);
        faultBehind(x, "q;p ba bb 1;", 7);
        due("adds() of the sixteenth, twice", added(x, "q;p ba ba 1;"), 1);
    }

    private static void reachThatIsNone() {
        String[] none = {"0", "10", "11", "99", "a", ";", "q"};
        for (String d : none) {
            faultOf("q;p a b " + d + ";", 8);
        }
        faultOf("q;p a b;", 7);
        reads("q;p a b 1;", 1);
        reads("q;p a b 9;", 1);
    }

    /** Each byte, at each place where a token is looked for. */
    private static void byteThatBeginsNone() {
        String[] ahead = {"", "q", "q;", "q;h ", "q;h a", "q;h a;", "q;n ", "q;p ", "q;p a ", "q;p a b ", "q;p a b 1"};
        for (int c = 0; c < 256; c++) {
            boolean begins = c == 32 || c == ';' || c >= '0' && c <= '9' || c >= 'a' && c <= 'z';
            for (int i = 0; !begins && i < ahead.length; i++) {
                faultOf(ahead[i] + (char) c + ";", ahead[i].length());
            }
        }
    }

    private static void numeralAbove99() {
        faultOf("q;p a b 100;", 8);
        faultOf("q;p a b 999;", 8);
        faultOf("q;p a b 1000;", 8);
        faultOf("q;p a b 257;", 8);
        faultOf("q;p a b 4294967297;", 8);
        faultOf("q;p a b 18446744073709551617;", 8);
        faultOf("q;p a b " + "1".repeat(100) + ";", 8);
        faultOf("q;h 100;", 4);
        faultOf("100", 0);
    }

    private static void numeralWithZeroAhead() {
        String[] numerals = {"00", "01", "09", "001", "010", "0000000001"};
        for (String numeral : numerals) {
            faultOf("q;p a b " + numeral + ";", 8);
            faultOf("q;h " + numeral + ";", 4);
            faultOf(" " + numeral, 1);
        }
    }

    /** Each beginning of a text that ends behind no item ends too early. */
    private static void endsTooEarly() {
        String text = "q;h ab;n b;p ab c 9;";
        for (int n = 1; n < text.length(); n++) {
            boolean whole = text.charAt(n - 1) == ';' && n > 2;
            String head = text.substring(0, n);
            if (!whole) {
                faultOf(head, n);
                faultOf(head + "   ", n + 3);
            }
        }
        String least = "q;h ab;q;n a";
        faultOf(least + " ".repeat(150 - least.length()), 150);
    }

    private static void lastQueryWithoutParts() {
        faultOf("q;", 2);
        faultOf("q;  ", 4);
        faultOf("q;h a;q;", 8);
        faultOf("q;h a;q;      ", 14);
        faultBehind(with("q;h a;"), "q;", 2);
        faultOf("q;" + " ".repeat(148), 150);
    }

    private static void firstOfSeveralFaults() {
        faultOf("q;h i;h j;x", 4);
        faultOf("x A", 0);
        faultOf("q;q;A", 2);
        faultOf("q;p a b 0;p a b 1;", 8);
        faultOf("q;h a;h a;h a;h a;h abcdefg;", 18);
        faultBehind(with(SIXTEEN + "q;h a;q;h a;q;h a;"), "q;h ba;q;h a;q;h a;", 4);
        faultBehind(with(SIXTEEN + "q;h a;q;h a;q;h a;"), "q;h a;q;h ba;", 6);
    }

    // ---- type, clear, adds

    private static void typeBad() {
        StandingQueries x = new StandingQueries();
        for (int c : new int[] {-1, 256, 257, -128, 353, Integer.MIN_VALUE, Integer.MAX_VALUE}) {
            due("type(" + c + ")", x.type(c), BAD);
        }
        due("count(5)", x.count(5), 0);
        due("type(0)", x.type(0), 1);
        due("type(255)", x.type(255), 2);
    }

    private static void typeFull() {
        StandingQueries x = new StandingQueries();
        types(x, "q;h a;" + " ".repeat(143));
        due("type(32), the 150th", x.type(32), 150);
        due("type(32), one more", x.type(32), FULL);
        due("type(120), one more", x.type('x'), FULL);
        due("count(5)", x.count(5), 150);
        due("adds()", x.adds(), 1);
    }

    private static void typeBadAheadOfFull() {
        StandingQueries x = new StandingQueries();
        types(x, " ".repeat(150));
        due("type(-1)", x.type(-1), BAD);
        due("type(256)", x.type(256), BAD);
        due("type(255)", x.type(255), FULL);
    }

    private static void clearEmptyAndFull() {
        StandingQueries x = new StandingQueries();
        due("clear() of none", x.clear(), 0);
        types(x, "x".repeat(151));
        due("clear() of 150", x.clear(), 150);
        due("count(5)", x.count(5), 0);
        due("clear() again", x.clear(), 0);
        types(x, "q;h a;");
        due("adds() of what was typed since", x.adds(), 1);
        due("clear() behind adds()", x.clear(), 0);
    }

    private static void addsNone() {
        StandingQueries x = new StandingQueries();
        due("adds() of no byte", x.adds(), 0);
        types(x, "  ");
        due("adds() of blanks", x.adds(), 0);
        due("count(5)", x.count(5), 0);
        due("count(0)", x.count(0), 0);
        due("both may be UNDONE", x.count(4), 2);
    }

    private static void addsAndTextIsEmpty() {
        StandingQueries x = new StandingQueries();
        types(x, "q;h a;");
        due("adds()", x.adds(), 1);
        due("count(5)", x.count(5), 0);
        due("adds() again", x.adds(), 0);
        due("count(0)", x.count(0), 1);
        due("adds() of 7", added(x, EIGHT.substring(6)), 7);
    }

    private static void addsLessFault() {
        reads("x", -10);
        reads("q", -11);
        String text = "q;h a;h b;";
        reads(text + " ".repeat(139) + "x", -159);
        reads(text + " ".repeat(139) + "n", -160);
        reads(text + " ".repeat(140), 1);
    }

    /** What a fault leaves: the text goes on from there, and what it told so far is not there. */
    private static void faultChangesNothing() {
        StandingQueries x = with("q;h abc;p a c 2;", "abc");
        types(x, "q;n d;h e");
        String before = all(x);
        due("adds() too early", x.adds(), -19);
        same("all", all(x), before);
        due("adds() too early again", x.adds(), -19);
        due("type(59)", x.type(';'), 10);
        due("adds()", x.adds(), 1);
        same("queries", queriesOf(x), "q;h abc;p a c 2;q;n d;h e;");
        due("count(4)", x.count(4), 5);
    }

    private static void faultTakesNoPlace() {
        StandingQueries x = new StandingQueries();
        faultBehind(x, SIXTEEN + "x", SIXTEEN.length());
        due("count(1)", x.count(1), 0);
        due("adds() of other words", added(x, SIXTEEN.replace(" a", " h").replace("h hh;", "h b;")), 4);
        faultBehind(x, "q;h b;q;h b;q;h b;q;h b;x", 24);
        due("adds() of four more", added(x, "q;h b;q;h b;q;h b;q;h b;"), 4);
    }

    private static void runFaults() {
        check("FAULT: what begins no ITEM", TextBoundaryTests::beginsNoItem);
        check("FAULT: q behind a QUERY without PARTS", TextBoundaryTests::queryWithoutParts);
        check("FAULT: a ninth QUERY", TextBoundaryTests::ninthQuery);
        check("FAULT: a PART ahead of q", TextBoundaryTests::partAheadOfQuery);
        check("FAULT: a fifth PART, at its letter", TextBoundaryTests::fifthPart);
        check("FAULT: a second NEAR, at its letter", TextBoundaryTests::secondNear);
        check("FAULT: a WORD that is none", TextBoundaryTests::wordThatIsNone);
        check("FAULT: a seventeenth unlike WORD", TextBoundaryTests::seventeenthWord);
        check("FAULT: D that is not 1 .. 9", TextBoundaryTests::reachThatIsNone);
        check("FAULT: a byte that begins no TOKEN", TextBoundaryTests::byteThatBeginsNone);
        check("FAULT: a NUMERAL above 99", TextBoundaryTests::numeralAbove99);
        check("FAULT: a NUMERAL with a 0 ahead of others", TextBoundaryTests::numeralWithZeroAhead);
        check("FAULT: the text's length, if it ends too early", TextBoundaryTests::endsTooEarly);
        check("FAULT: the last QUERY without PARTS, too", TextBoundaryTests::lastQueryWithoutParts);
        check("FAULT: the first TOKEN that can't stand there", TextBoundaryTests::firstOfSeveralFaults);
    }

    static void run() {
        check("WORDS of 1 to 6 letters", TextBoundaryTests::wordSizes);
        check("WORDS of letters a .. h", TextBoundaryTests::wordLetters);
        check("QUERIES: 8 at most", TextBoundaryTests::eightQueries);
        check("QUERIES of 1 to 4 PARTS", TextBoundaryTests::oneToFourParts);
        check("NEAR: d 1 .. 9", TextBoundaryTests::reachOneToNine);
        check("NEAR: one at most in a QUERY", TextBoundaryTests::oneNearInAQuery);
        check("WORDS: 16 unlike ones at most", TextBoundaryTests::sixteenWords);
        check("WORDS are numbered by letters", TextBoundaryTests::wordsByLetters);
        check("THE TEXT: 150 bytes at most", TextBoundaryTests::textOf150);
        check("blanks (32) between TOKENS", TextBoundaryTests::blanksBetween);
        check("each ITEM is ended by ;", TextBoundaryTests::itemsEndBySemicolon);
        check("TOKENS: letters side by side", TextBoundaryTests::lettersSideBySide);
        runFaults();
        check("type: BAD", TextBoundaryTests::typeBad);
        check("type: FULL", TextBoundaryTests::typeFull);
        check("type: BAD ahead of FULL", TextBoundaryTests::typeBadAheadOfFull);
        check("clear: of none, of 150", TextBoundaryTests::clearEmptyAndFull);
        check("adds: no QUERY told", TextBoundaryTests::addsNone);
        check("adds: THE TEXT is empty then", TextBoundaryTests::addsAndTextIsEmpty);
        check("adds: -10 less FAULT", TextBoundaryTests::addsLessFault);
        check("adds: by a FAULT nothing changes", TextBoundaryTests::faultChangesNothing);
        check("adds: by a FAULT no place is taken", TextBoundaryTests::faultTakesNoPlace);
    }

    public static void main(String[] args) {
        run();
        end();
    }
}
