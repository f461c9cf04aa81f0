/** Each sentence of the document that names a boundary of what is asked, with a case of its own. */
public final class AskBoundaryTests extends Cases {
    private static final String FORTY = "abcdefgh".repeat(5);
    private static final String SIXTEEN_LONG = "q;h aacdef;h abcdef;h bacdef;h bbcdef;q;h cacdef;h cbcdef;h dacdef;h dbcdef;";
    private static final String SIXTEEN_LONG_TOO = "q;h eacdef;h ebcdef;h facdef;h fbcdef;q;h gacdef;h gbcdef;h hacdef;h hbcdef;";
    private static final int[] FAR = {Integer.MIN_VALUE, -256, 256, 65536, Integer.MAX_VALUE};

    private static StandingQueries withLongWords() {
        StandingQueries x = with(SIXTEEN_LONG);
        due("adds() of the other eight", added(x, SIXTEEN_LONG_TOO), 2);
        return x;
    }

    // ---- query

    private static void queryBad() {
        StandingQueries x = with("q;h a;q;n a;");
        for (int what = 0; what <= 4; what++) {
            due("query(-1, " + what + ")", x.query(-1, what), BAD);
            due("query(2, " + what + ")", x.query(2, what), BAD);
        }
        due("query(1, 0)", x.query(1, 0), 1);
        for (int far : FAR) {
            due("query(" + far + ", 0)", x.query(far, 0), BAD);
        }
    }

    private static void queryBadWhat() {
        StandingQueries x = with("q;h a;");
        due("query(0, -1)", x.query(0, -1), BAD);
        due("query(0, 5)", x.query(0, 5), BAD);
        due("query(0, 4)", x.query(0, 4), 0);
        for (int far : FAR) {
            due("query(0, " + far + ")", x.query(0, far), BAD);
        }
    }

    private static void matchesByAllParts() {
        StandingQueries x = with("q;h a;h b;n c;p a b 2;");
        String[] rows = {"", "a", "ab", "abc"};
        int[] want = {0, 0, 1, 0};
        for (int i = 0; i < rows.length; i++) {
            due("query(0, 1) behind '" + rows[i] + "'", x.query(0, 1), want[i]);
            feed(x, "abc".substring(i, Math.min(i + 1, 3)));
        }
    }

    private static void sinceLeastAndMost() {
        due("SINCE none of the letters", with("q;n a;", "bbb").query(0, 2), 0);
        due("SINCE none, of none", with("q;n a;").query(0, 2), 0);
        due("SINCE the first", with("q;h a;", "aaa").query(0, 2), 1);
        due("SINCE the last of 40", with("q;h a;", "b".repeat(39) + "a").query(0, 2), 40);
        due("SINCE the first of 40", with("q;h a;", "a" + "b".repeat(39)).query(0, 2), 1);
        due("SINCE none of 40", with("q;n a;", "b".repeat(40)).query(0, 2), 0);
        due("SINCE the latest of PARTS", with("q;h a;h b;p a b 9;n h;", "baccbc").query(0, 2), 5);
    }

    private static void sinceNone() {
        due("SINCE of HAS", with("q;h a;").query(0, 2), NONE);
        due("SINCE of LACKS that is there", with("q;n a;", "bba").query(0, 2), NONE);
        due("SINCE of what matched once", with("q;h b;n a;", "bbab").query(0, 2), NONE);
        due("SINCE of the last of 40", with("q;n a;", "b".repeat(39) + "a").query(0, 2), NONE);
    }

    private static void keyOfMostLetters() {
        due("KEY of most letters", with("q;h b;h ab;h abcdef;h gggg;").query(0, 3), 1);
        due("KEY told last", with("q;h a;h b;h c;h dd;").query(0, 3), 3);
        due("KEY of one", with("q;n a;n b;h c;").query(0, 3), 2);
    }

    private static void keyOfLowestNumber() {
        due("KEY of several, told last", with("q;h c;h b;h a;").query(0, 3), 0);
        due("KEY of several, told first", with("q;h aa;h hh;h ba;h c;").query(0, 3), 0);
        due("KEY of several behind a short one", with("q;h a;h hh;h gg;").query(0, 3), 1);
        due("KEY of two alike", with("q;h b;h b;n a;").query(0, 3), 1);
    }

    private static void keyNone() {
        due("KEY of LACKS", with("q;n a;").query(0, 3), NONE);
        due("KEY of NEAR", with("q;p a b 1;").query(0, 3), NONE);
        due("KEY of both", with("q;n aaaaaa;p bbbbbb cccccc 1;n d;").query(0, 3), NONE);
        due("KEY beside longer WORDS", with("q;h a;n bbbbbb;p cccccc dddddd 1;").query(0, 3), 0);
    }

    /** What stands behind the PARTS of a QUERY, the next one's or what went, is none of its own. */
    private static void keyOfItsOwnWords() {
        due("KEY ahead of another QUERY", with("q;h a;n b;n c;n d;q;h hhhhhh;").query(0, 3), 0);
        StandingQueries x = with("q;h a;h hhhhhh;q;h b;");
        x.drops(0);
        due("adds()", added(x, "q;h hhhhhh;"), 1);
        due("KEY where a longer one was", x.query(0, 3), 0);
        due("query(0, 4)", x.query(0, 4), 0);
        feed(x, "b");
        due("query(0, 4)", x.query(0, 4), 1);
        due("query(0, 1)", x.query(0, 1), 1);
    }

    private static void askedByKey() {
        StandingQueries x = with("q;h ab;h b;");
        due("query(0, 4) of none", x.query(0, 4), 0);
        x.feeds('b');
        due("query(0, 4) by another WORD", x.query(0, 4), 0);
        feed(x, "ab");
        due("query(0, 4)", x.query(0, 4), 1);
        x.cuts();
        due("query(0, 4) behind cuts()", x.query(0, 4), 0);
        due("query(0, 4) by the 40th letter", with("q;h a;", "b".repeat(39) + "a").query(0, 4), 1);
    }

    private static void askedWithoutKey() {
        StandingQueries x = with("q;n a;q;p a b 1;q;h a;");
        due("query(0, 4)", x.query(0, 4), 1);
        due("query(1, 4)", x.query(1, 4), 1);
        due("now(4)", x.now(4), 3);
        x.feeds('a');
        due("query(0, 4) that can't match", x.query(0, 4), 1);
        due("now(4)", x.now(4), 7);
    }

    // ---- part

    private static void partBad() {
        StandingQueries x = with("q;h a;q;n a;p a b 1;h c;h d;");
        for (int what = 0; what <= 4; what++) {
            due("part(-1, 0, " + what + ")", x.part(-1, 0, what), BAD);
            due("part(2, 0, " + what + ")", x.part(2, 0, what), BAD);
            due("part(0, 1, " + what + ")", x.part(0, 1, what), BAD);
            due("part(0, -1, " + what + ")", x.part(0, -1, what), BAD);
            due("part(1, 4, " + what + ")", x.part(1, 4, what), BAD);
        }
        due("part(1, 3, 1)", x.part(1, 3, 1), 3);
        for (int far : FAR) {
            due("part(" + far + ", 0, 0)", x.part(far, 0, 0), BAD);
            due("part(0, " + far + ", 0)", x.part(0, far, 0), BAD);
        }
        x.drops(0);
        due("part(1, 0, 0) of what went", x.part(1, 0, 0), BAD);
        x.drops(0);
        due("part(0, 0, 0) of what went", x.part(0, 0, 0), BAD);
    }

    private static void partBadWhat() {
        StandingQueries x = with("q;h a;p a b 9;");
        for (int k = 0; k < 2; k++) {
            due("part(0, " + k + ", -1)", x.part(0, k, -1), BAD);
            due("part(0, " + k + ", 5)", x.part(0, k, 5), BAD);
        }
        for (int far : FAR) {
            due("part(0, 0, " + far + ")", x.part(0, 0, far), BAD);
        }
    }

    private static void partNone() {
        StandingQueries x = with("q;h a;n b;p c d 9;");
        for (int k = 0; k < 2; k++) {
            due("part(0, " + k + ", 2)", x.part(0, k, 2), NONE);
            due("part(0, " + k + ", 3)", x.part(0, k, 3), NONE);
        }
        due("part(0, 2, 1), w", x.part(0, 2, 1), 3);
        due("part(0, 2, 2), v", x.part(0, 2, 2), 2);
        due("part(0, 2, 3)", x.part(0, 2, 3), 9);
    }

    /** Parts that stand where others stood: nothing of those is left. */
    private static void partNoneWhereNearWas() {
        StandingQueries x = with("q;p a b 9;q;h a;n b;");
        x.drops(0);
        due("part(0, 0, 2)", x.part(0, 0, 2), NONE);
        due("part(0, 0, 3)", x.part(0, 0, 3), NONE);
        StandingQueries y = with("q;p a b 9;");
        y.drops(0);
        due("adds()", added(y, "q;n b;h a;"), 1);
        due("part(0, 0, 2)", y.part(0, 0, 2), NONE);
        due("part(0, 0, 3)", y.part(0, 0, 3), NONE);
    }

    private static void hasAndLacks() {
        String[] rows = {"", "a", "a" + "b".repeat(39), "b".repeat(39) + "a", "b".repeat(31) + "abb", "b".repeat(32) + "abb", "b".repeat(40)};
        int[] want = {0, 1, 1, 1, 1, 1, 0};
        for (int i = 0; i < rows.length; i++) {
            StandingQueries x = with("q;h a;n a;", rows[i]);
            due("HAS behind '" + rows[i] + "'", x.part(0, 0, 4), want[i]);
            due("LACKS behind '" + rows[i] + "'", x.part(0, 1, 4), 1 - want[i]);
        }
    }

    private static void nearOf(String part, String row, int want) {
        due(part + " behind '" + row + "'", with("q;" + part + ";", row).part(0, 0, 4), want);
    }

    private static void nearLeastAndMost() {
        for (int d = 1; d <= 9; d++) {
            for (int apart = 1; apart <= 12; apart++) {
                nearOf("p a b " + d, "a" + "c".repeat(apart - 1) + "b", apart <= d ? 1 : 0);
            }
        }
        nearOf("p a b 9", "c".repeat(30) + "acccccccc" + "b", 1);
        nearOf("p a b 8", "c".repeat(30) + "acccccccc" + "b", 0);
        nearOf("p a b 9", "a" + "c".repeat(38) + "b", 0);
        nearOf("p a b 3", "c".repeat(30) + "accbccb", 1);
    }

    private static void nearNotItself() {
        nearOf("p a a 9", "a", 0);
        nearOf("p a a 1", "aa", 1);
        nearOf("p ab b 9", "ab", 0);
        nearOf("p b ab 9", "ab", 0);
        nearOf("p ab b 1", "abb", 1);
        nearOf("p a ab 1", "ab", 1);
    }

    private static void nearNotBefore() {
        nearOf("p a b 9", "ba", 0);
        nearOf("p a b 9", "bccca", 0);
        nearOf("p a b 1", "bab", 1);
        nearOf("p a b 9", "", 0);
        nearOf("p a b 9", "aaa", 0);
        nearOf("p a b 9", "bbb", 0);
    }

    // ---- shortest, more, many

    private static void shortestBad() {
        StandingQueries x = with("q;h a;q;h a;n a;");
        due("shortest(0, -2)", x.shortest(0, -2), BAD);
        due("shortest(1, -2) of no row", x.shortest(1, -2), BAD);
        due("shortest(0, min)", x.shortest(0, Integer.MIN_VALUE), BAD);
        due("shortest(-1, -1)", x.shortest(-1, -1), BAD);
        due("shortest(2, -1)", x.shortest(2, -1), BAD);
        due("shortest(2, 0)", x.shortest(2, 0), BAD);
        due("shortest(0, -1)", x.shortest(0, -1), 1);
    }

    private static void shortestOf(String text, String row) {
        StandingQueries x = with(text);
        due("shortest(0, -1) of " + text, x.shortest(0, -1), row.length());
        StringBuilder seen = new StringBuilder();
        for (int k = 0; k < row.length(); k++) {
            seen.append((char) x.shortest(0, k));
        }
        same("shortest row of " + text, seen.toString(), row);
    }

    private static void shortestNotSoMany() {
        StandingQueries x = with("q;h abc;q;n a;");
        due("shortest(0, 2)", x.shortest(0, 2), 'c');
        due("shortest(0, 3)", x.shortest(0, 3), NONE);
        due("shortest(0, max)", x.shortest(0, Integer.MAX_VALUE), NONE);
        due("shortest(1, -1) of no letters", x.shortest(1, -1), 0);
        due("shortest(1, 0) of no letters", x.shortest(1, 0), NONE);
    }

    private static void shortestNoRow() {
        String[] texts = {"q;h a;n a;", "q;h abc;n bc;", "q;p a b 1;n b;", "q;p ab ab 1;", "q;p abcdef bcdefg 9;n cde;"};
        for (String text : texts) {
            StandingQueries x = with(text, "a");
            due("shortest(0, -1) of " + text, x.shortest(0, -1), NONE);
            due("shortest(0, 0) of " + text, x.shortest(0, 0), NONE);
            due("more(0) of " + text, x.more(0), NONE);
            due("many(0, 12) of " + text, x.many(0, 12), 0);
        }
    }

    private static void shortestLeastAndMost() {
        shortestOf("q;n a;n b;n c;n d;", "");
        shortestOf("q;h h;", "h");
        shortestOf("q;h abbbbb;h accccc;h addddd;p afffff aeeeee 9;", "abbbbbacccccadddddafffffaeeeee");
        shortestOf("q;p ab ba 9;n aba;n abba;n bb;", "abcba");
    }

    private static void shortestFirstByLetters() {
        shortestOf("q;h c;h b;h a;", "abc");
        shortestOf("q;h ba;h ab;", "aba");
        shortestOf("q;p b h 2;n bh;", "bah");
        shortestOf("q;p b h 2;n bh;n ba;", "bch");
        shortestOf("q;p b h 2;n bh;n ba;n bc;", "bdh");
        shortestOf("q;h b;h a;n ab;", "ba");
        shortestOf("q;p a a 9;h b;n aa;", "aba");
    }

    /** It is of the QUERY alone: letters that came in are nothing to it. */
    private static void shortestWithoutTheLetters() {
        StandingQueries x = with("q;h ab;n c;", "abc");
        due("shortest(0, -1)", x.shortest(0, -1), 2);
        due("shortest(0, 0)", x.shortest(0, 0), 'a');
        due("more(0)", x.more(0), NONE);
        due("many(0, 2)", x.many(0, 2), 1);
        due("shortest(0, 1) behind more(0)", x.shortest(0, 1), 'b');
    }

    /** As many nodes as one QUERY can have: five WORDS that share no beginning, three HAS and a NEAR. */
    private static void rowsOfTheLargestQuery() {
        StandingQueries x = with("q;h aaaaaa;h bbbbbb;h cccccc;p dddddd eeeeee 9;", "dddddd");
        due("count(2)", x.count(2), 31);
        due("many(0, 12)", x.many(0, 12), 0);
        due("shortest(0, -1)", x.shortest(0, -1), 30);
        due("shortest(0, 0)", x.shortest(0, 0), 'a');
        due("shortest(0, 29)", x.shortest(0, 29), 'e');
        due("more(0)", x.more(0), 24);
        feed(x, "hhh");
        due("more(0), just near enough", x.more(0), 24);
        feed(x, "h");
        due("more(0), just too far", x.more(0), 30);
    }

    /** Each QUERY is asked on its own, whatever was asked ahead of it. */
    private static void rowsOfOneQueryAlone() {
        StandingQueries x = with("q;p ab ba 9;h c;h d;h e;q;n a;q;h f;n g;q;h h;h gh;h fgh;h efgh;");
        int[] sizes = {6, 0, 1, 4};
        long[] twos = {0, 49, 13, 0};
        for (int times = 0; times < 2; times++) {
            for (int q = 0; q < 4; q++) {
                due("shortest(" + q + ", -1)", x.shortest(q, -1), sizes[q]);
                due("more(" + q + ")", x.more(q), sizes[q]);
                due("many(" + q + ", 2)", x.many(q, 2), twos[q]);
            }
        }
        StandingQueries y = with("q;h b;n ab;", "a");
        due("shortest(0, -1)", y.shortest(0, -1), 1);
        due("more(0) by another letter between", y.more(0), 2);
        due("shortest(0, -1) again", y.shortest(0, -1), 1);
    }

    private static void moreBad() {
        StandingQueries x = with("q;h a;");
        due("more(-1)", x.more(-1), BAD);
        due("more(1)", x.more(1), BAD);
        due("more(0)", x.more(0), 1);
        for (int far : FAR) {
            due("more(" + far + ")", x.more(far), BAD);
        }
    }

    private static void moreLeastAndMost() {
        String most = "q;h abbbbb;h accccc;h addddd;p afffff aeeeee 9;";
        due("more(0) of none", with(most).more(0), 30);
        due("more(0) of 40 that do not help", with(most, "h".repeat(40)).more(0), 30);
        due("more(0) of 40, the last helps", with(most, "h".repeat(39) + "a").more(0), 29);
        due("more(0) of 40 letters that match", with("q;h a;", "a".repeat(40)).more(0), 0);
        due("more(0) of LACKS alone", with("q;n a;").more(0), 0);
        due("more(0), v just near enough", with("q;p a b 9;", "acccccccc").more(0), 1);
        due("more(0), v just too far", with("q;p a b 9;", "accccccccc").more(0), 2);
    }

    private static void moreNone() {
        due("more(0) of what must not be", with("q;n a;", "a").more(0), NONE);
        due("more(0) of what once was", with("q;h b;n a;", "ba" + "b".repeat(38)).more(0), NONE);
        due("more(0) of no row", with("q;h ab;n b;").more(0), NONE);
        due("more(0) once it is there", with("q;n ab;h c;", "ab").more(0), NONE);
        due("more(0) until then", with("q;n ab;h c;", "aab".substring(0, 2)).more(0), 1);
    }

    private static void manyBad() {
        StandingQueries x = with("q;h a;");
        due("many(0, -1)", x.many(0, -1), BAD);
        due("many(0, 13)", x.many(0, 13), BAD);
        due("many(-1, 0)", x.many(-1, 0), BAD);
        due("many(1, 0)", x.many(1, 0), BAD);
        for (int far : FAR) {
            due("many(" + far + ", 0)", x.many(far, 0), BAD);
            due("many(0, " + far + ")", x.many(0, far), BAD);
        }
    }

    private static void manyOfNoLetters() {
        StandingQueries x = with("q;h a;q;n a;q;p a b 9;q;n a;n b;h c;");
        long[] want = {0, 1, 0, 0};
        for (int q = 0; q < want.length; q++) {
            due("many(" + q + ", 0)", x.many(q, 0), want[q]);
        }
    }

    /** All rows have the WORD or lack it; 12 letters make more rows than an int can count. */
    private static void manyOfTwelve() {
        long rows = 1;
        for (int n = 0; n <= 12; n++) {
            StandingQueries x = with("q;h abcdef;q;n abcdef;q;n h;q;p a b 1;");
            due("rows of " + n + " letters", x.many(0, n) + x.many(1, n), rows);
            due("many(2, " + n + ")", x.many(2, n), Math.round(Math.pow(7, n)));
            rows *= 8;
        }
        StandingQueries x = with("q;h abcdef;q;n aaaaaa;q;h abcdef;h bcdefg;h hhhhha;");
        due("many(0, 12)", x.many(0, 12), 7L * 262144 - 1);
        due("many(1, 12) is above an int", x.many(1, 12) > 68_000_000_000L ? 1 : 0, 1);
        due("many(2, 12) of 13 that are needed", x.many(2, 12), 1);
    }

    // ---- words, nodes, letters

    private static void wordBad() {
        StandingQueries x = with("q;h ab;h c;");
        due("word(-1, -1)", x.word(-1, -1), BAD);
        due("word(2, -1)", x.word(2, -1), BAD);
        due("word(2, 0)", x.word(2, 0), BAD);
        due("word(0, -2)", x.word(0, -2), BAD);
        due("word(0, min)", x.word(0, Integer.MIN_VALUE), BAD);
        StandingQueries most = withLongWords();
        due("word(15, 5)", most.word(15, 5), 'f');
        due("word(16, -1)", most.word(16, -1), BAD);
    }

    private static void wordNotSoMany() {
        StandingQueries x = with("q;h a;h bcdefg;");
        due("word(0, 0)", x.word(0, 0), 'a');
        due("word(0, 1)", x.word(0, 1), NONE);
        due("word(0, -1)", x.word(0, -1), 1);
        due("word(1, 5)", x.word(1, 5), 'g');
        due("word(1, 6)", x.word(1, 6), NONE);
        due("word(1, 7)", x.word(1, 7), NONE);
        due("word(1, max)", x.word(1, Integer.MAX_VALUE), NONE);
        due("word(1, -1)", x.word(1, -1), 6);
    }

    private static void hitBad() {
        StandingQueries x = with("q;h a;h b;", "a");
        due("hit(-1, -1)", x.hit(-1, -1), BAD);
        due("hit(2, -1)", x.hit(2, -1), BAD);
        due("hit(2, 0)", x.hit(2, 0), BAD);
        due("hit(0, -2)", x.hit(0, -2), BAD);
        due("hit(1, -2)", x.hit(1, -2), BAD);
        due("hit(0, min)", x.hit(0, Integer.MIN_VALUE), BAD);
        StandingQueries most = withLongWords();
        feed(most, "hbcdef");
        due("hit(15, 0)", most.hit(15, 0), 5);
        due("hit(16, -1)", most.hit(16, -1), BAD);
    }

    private static void hitNotSoMany() {
        StandingQueries x = with("q;h a;h b;", "aca");
        due("hit(0, -1)", x.hit(0, -1), 2);
        due("hit(0, 0), by the first letter", x.hit(0, 0), 0);
        due("hit(0, 1)", x.hit(0, 1), 2);
        due("hit(0, 2)", x.hit(0, 2), NONE);
        due("hit(0, max)", x.hit(0, Integer.MAX_VALUE), NONE);
        due("hit(1, -1) of none", x.hit(1, -1), 0);
        due("hit(1, 0) of none", x.hit(1, 0), NONE);
    }

    private static void hitsOfForty() {
        StandingQueries x = with("q;h a;h aaaaaa;", "a".repeat(40));
        due("hit(0, -1)", x.hit(0, -1), 40);
        due("hit(1, -1)", x.hit(1, -1), 35);
        for (int k = 0; k < 40; k++) {
            due("hit(0, " + k + ")", x.hit(0, k), k);
            due("hit(1, " + k + ")", x.hit(1, k), k < 35 ? k + 5 : NONE);
        }
        due("hit(0, 40)", x.hit(0, 40), NONE);
        due("now(5)", x.now(5), 75);
    }

    private static void nodeBad() {
        StandingQueries x = new StandingQueries();
        due("node(0, 0)", x.node(0, 0), 0);
        for (int what = 0; what <= 4; what++) {
            due("node(1, " + what + ")", x.node(1, what), BAD);
            due("node(-1, " + what + ")", x.node(-1, what), BAD);
        }
        StandingQueries y = with("q;h abc;");
        due("node(3, 0)", y.node(3, 0), 3);
        due("node(4, 0)", y.node(4, 0), BAD);
        due("node(0, -1)", y.node(0, -1), BAD);
        due("node(0, 5)", y.node(0, 5), BAD);
        due("node(3, 5)", y.node(3, 5), BAD);
        for (int far : FAR) {
            due("node(" + far + ", 0)", y.node(far, 0), BAD);
            due("node(0, " + far + ")", y.node(0, far), BAD);
        }
    }

    private static void nodeZero() {
        StandingQueries x = new StandingQueries();
        StandingQueries y = with("q;h a;n b;");
        int[] want = {0, NONE, NONE, NONE, 0};
        for (int what = 0; what <= 4; what++) {
            due("node(0, " + what + ") without WORDS", x.node(0, what), want[what]);
            due("node(0, " + what + ")", y.node(0, what), want[what]);
        }
    }

    private static void nodesMost() {
        StandingQueries x = withLongWords();
        due("count(1)", x.count(1), 16);
        due("count(2)", x.count(2), 89);
        due("node(1, 1)", x.node(1, 1), 'a');
        due("node(8, 1)", x.node(8, 1), 'h');
        due("node(9, 2)", x.node(9, 2), 1);
        due("node(88, 0)", x.node(88, 0), 6);
        due("node(88, 2)", x.node(88, 2), 72);
        due("node(88, 4)", x.node(88, 4), 1 << 15);
        due("node(89, 0)", x.node(89, 0), BAD);
        due("next(88, h)", x.next(88, 'h'), 8);
        due("next(89, h)", x.next(89, 'h'), BAD);
    }

    private static void nodesBySizeThenLetters() {
        StandingQueries x = with("q;h ba;h b;h acb;h h;");
        String[] nodes = {"", "a", "b", "h", "ac", "ba", "acb"};
        due("count(2)", x.count(2), nodes.length);
        for (int n = 1; n < nodes.length; n++) {
            due("node(" + n + ", 0)", x.node(n, 0), nodes[n].length());
            due("node(" + n + ", 1)", x.node(n, 1), nodes[n].charAt(nodes[n].length() - 1));
        }
        due("node(6, 2)", x.node(6, 2), 4);
    }

    private static void failIsNotItself() {
        StandingQueries x = with("q;h aaaaaa;");
        due("node(1, 3)", x.node(1, 3), 0);
        for (int n = 2; n <= 6; n++) {
            due("node(" + n + ", 3)", x.node(n, 3), n - 1);
        }
        StandingQueries y = with("q;h abcdef;");
        for (int n = 1; n <= 6; n++) {
            due("node(" + n + ", 3) of unlike letters", y.node(n, 3), 0);
        }
        StandingQueries z = with("q;h abab;h bab;h b;");
        due("FAIL of abab is bab", z.node(7, 3), 6);
        due("FAIL of bab is ab", z.node(6, 3), 3);
        due("FAIL of aba is ba", z.node(5, 3), 4);
    }

    private static void endsOfANode() {
        StandingQueries x = with("q;h abcdef;h bcdef;h cdef;h def;q;h ef;h f;");
        int whole = x.count(2) - 1;
        due("node(last, 4)", x.node(whole, 4), 63);
        due("node(1, 4)", x.node(1, 4), 0);
        due("node(0, 4)", x.node(0, 4), 0);
    }

    private static void nextBad() {
        StandingQueries x = with("q;h ah;");
        due("next(-1, a)", x.next(-1, 'a'), BAD);
        due("next(3, a)", x.next(3, 'a'), BAD);
        due("next(0, 96)", x.next(0, 96), BAD);
        due("next(0, 105)", x.next(0, 105), BAD);
        due("next(2, 105)", x.next(2, 105), BAD);
        due("next(1, 96)", x.next(1, 96), BAD);
        due("next(0, 97)", x.next(0, 97), 1);
        due("next(1, 104)", x.next(1, 104), 2);
        due("next(2, 104)", x.next(2, 104), 0);
        for (int far : FAR) {
            due("next(" + far + ", 97)", x.next(far, 97), BAD);
            due("next(0, " + far + ")", x.next(0, far), BAD);
        }
    }

    private static void nextWithoutWords() {
        StandingQueries x = new StandingQueries();
        for (int c = 97; c <= 104; c++) {
            due("next(0, " + c + ")", x.next(0, c), 0);
        }
        due("next(1, 97)", x.next(1, 97), BAD);
    }

    private static void letterBad() {
        StandingQueries x = new StandingQueries();
        due("letter(0) of none", x.letter(0), BAD);
        due("letter(-1) of none", x.letter(-1), BAD);
        feed(x, FORTY);
        due("letter(0)", x.letter(0), 97);
        due("letter(39)", x.letter(39), 104);
        due("letter(40)", x.letter(40), BAD);
        due("letter(-1)", x.letter(-1), BAD);
        x.cuts();
        due("letter(39) behind cuts()", x.letter(39), BAD);
        for (int far : FAR) {
            due("letter(" + far + ")", x.letter(far), BAD);
        }
    }

    private static void nowBad() {
        StandingQueries x = with("q;n a;", "b");
        due("now(-1)", x.now(-1), BAD);
        due("now(6)", x.now(6), BAD);
        due("now(5)", x.now(5), 0);
        for (int far : FAR) {
            due("now(" + far + ")", x.now(far), BAD);
        }
    }

    private static void nowWithoutLetters() {
        StandingQueries x = with("q;n a;q;h a;");
        due("now(1)", x.now(1), 1);
        due("now(2)", x.now(2), 0);
        due("now(3)", x.now(3), 0);
        x.feeds('a');
        due("now(2) by the first letter", x.now(2), 2);
        due("now(3) by the first letter", x.now(3), 1);
        x.cuts();
        due("now(2) behind cuts()", x.now(2), 0);
        due("now(3) behind cuts()", x.now(3), 0);
    }

    private static void toldByTheLastLetterAlone() {
        StandingQueries x = with("q;h a;q;n b;");
        x.feeds('a');
        due("now(2)", x.now(2), 1);
        x.feeds('c');
        due("now(2), a letter later", x.now(2), 0);
        x.feeds('b');
        due("now(3)", x.now(3), 2);
        x.feeds('b');
        due("now(3), a letter later", x.now(3), 0);
        due("now(2) by the 40th", with("q;h a;", "b".repeat(39) + "a").now(2), 1);
        due("now(3) by the 40th", with("q;n a;", "b".repeat(39) + "a").now(3), 1);
    }

    private static void nowOfEight() {
        StandingQueries x = with("q;h a;q;h a;q;h a;q;h a;q;h a;q;h a;q;h a;q;h a;");
        due("now(4)", x.now(4), 0);
        x.feeds('a');
        due("now(1)", x.now(1), 255);
        due("now(2)", x.now(2), 255);
        due("now(4)", x.now(4), 255);
        StandingQueries y = with("q;n a;q;n a;q;n a;q;n a;q;n a;q;n a;q;n a;q;n a;", "a");
        due("now(3)", y.now(3), 255);
        due("now(1)", y.now(1), 0);
        StandingQueries z = with("q;h a;q;h a;q;h a;q;h a;q;h a;q;h a;q;h a;q;h b;", "b");
        due("now(1) of the eighth", z.now(1), 128);
    }

    private static void countBad() {
        StandingQueries x = with("q;h a;");
        due("count(-1)", x.count(-1), BAD);
        due("count(6)", x.count(6), BAD);
        due("count(5)", x.count(5), 0);
        for (int far : FAR) {
            due("count(" + far + ")", x.count(far), BAD);
        }
    }

    private static void countsAtTheMost() {
        StandingQueries x = withLongWords();
        due("adds() up to 8", added(x, "q;n aacdef;q;n aacdef;q;n aacdef;q;n aacdef;"), 4);
        feed(x, FORTY);
        types(x, " ".repeat(150));
        int[] want = {8, 16, 89, 40, 10, 150};
        for (int what = 0; what < want.length; what++) {
            due("count(" + what + ")", x.count(what), want[what]);
        }
        due("now(5) of 16 WORDS", x.now(5), 5);
    }

    private static void askingChangesNothing() {
        StandingQueries x = with("q;h ab;n c;p a b 2;", "ab");
        types(x, "q");
        String before = all(x);
        x.shortest(0, -1);
        x.more(0);
        x.many(0, 12);
        x.next(2, 'h');
        x.node(2, 4);
        same("all", all(x), before);
        due("undo()", x.undo(), 2);
    }

    private static void runQueries() {
        check("query: BAD", AskBoundaryTests::queryBad);
        check("query: BAD of what is asked", AskBoundaryTests::queryBadWhat);
        check("MATCHES, if all its PARTS HOLD", AskBoundaryTests::matchesByAllParts);
        check("SINCE: the fewest letters", AskBoundaryTests::sinceLeastAndMost);
        check("SINCE: NONE", AskBoundaryTests::sinceNone);
        check("KEY: that of most letters", AskBoundaryTests::keyOfMostLetters);
        check("KEY: of several the lowest number", AskBoundaryTests::keyOfLowestNumber);
        check("KEY: NONE", AskBoundaryTests::keyNone);
        check("KEY: of its WORDS", AskBoundaryTests::keyOfItsOwnWords);
        check("ASKED: whose KEY has a HIT", AskBoundaryTests::askedByKey);
        check("ASKED: or is NONE", AskBoundaryTests::askedWithoutKey);
        check("part: BAD", AskBoundaryTests::partBad);
        check("part: BAD of what is asked", AskBoundaryTests::partBadWhat);
        check("part: v, d: NONE", AskBoundaryTests::partNone);
        check("part: NONE where NEAR was", AskBoundaryTests::partNoneWhereNearWas);
        check("HAS: has a HIT; LACKS: has none", AskBoundaryTests::hasAndLacks);
        check("NEAR: 1 to d more", AskBoundaryTests::nearLeastAndMost);
        check("NEAR: at least 1 more", AskBoundaryTests::nearNotItself);
        check("NEAR: not the other way", AskBoundaryTests::nearNotBefore);
    }

    private static void runRows() {
        check("shortest: BAD", AskBoundaryTests::shortestBad);
        check("shortest: NONE: not so many", AskBoundaryTests::shortestNotSoMany);
        check("shortest: NONE: no such row", AskBoundaryTests::shortestNoRow);
        check("SHORTEST: the fewest letters", AskBoundaryTests::shortestLeastAndMost);
        check("SHORTEST: the first by letters", AskBoundaryTests::shortestFirstByLetters);
        check("SHORTEST: by which alone it MATCHES", AskBoundaryTests::shortestWithoutTheLetters);
        check("SHORTEST, MORE, MANY of the largest QUERY", AskBoundaryTests::rowsOfTheLargestQuery);
        check("SHORTEST, MORE, MANY of one QUERY alone", AskBoundaryTests::rowsOfOneQueryAlone);
        check("more: BAD", AskBoundaryTests::moreBad);
        check("MORE: the fewest letters", AskBoundaryTests::moreLeastAndMost);
        check("MORE: NONE", AskBoundaryTests::moreNone);
        check("many: BAD", AskBoundaryTests::manyBad);
        check("MANY of 0 letters", AskBoundaryTests::manyOfNoLetters);
        check("MANY of up to 12 letters", AskBoundaryTests::manyOfTwelve);
    }

    private static void runWordsNodesLetters() {
        check("word: BAD", AskBoundaryTests::wordBad);
        check("word: NONE: not so many", AskBoundaryTests::wordNotSoMany);
        check("hit: BAD", AskBoundaryTests::hitBad);
        check("hit: NONE: not so many", AskBoundaryTests::hitNotSoMany);
        check("HIT: each time that it is there", AskBoundaryTests::hitsOfForty);
        check("node: BAD", AskBoundaryTests::nodeBad);
        check("node: NONE of NODE 0", AskBoundaryTests::nodeZero);
        check("NODES: as many as can be", AskBoundaryTests::nodesMost);
        check("NODES by how many letters, then by letters", AskBoundaryTests::nodesBySizeThenLetters);
        check("FAIL: but itself", AskBoundaryTests::failIsNotItself);
        check("ENDS: WORDS that are endings", AskBoundaryTests::endsOfANode);
        check("next: BAD", AskBoundaryTests::nextBad);
        check("next: without WORDS", AskBoundaryTests::nextWithoutWords);
        check("letter: BAD", AskBoundaryTests::letterBad);
        check("now: BAD", AskBoundaryTests::nowBad);
        check("TOLD, GONE: none without letters", AskBoundaryTests::nowWithoutLetters);
        check("TOLD, GONE: by the last letter", AskBoundaryTests::toldByTheLastLetterAlone);
        check("now: bits of 8 QUERIES", AskBoundaryTests::nowOfEight);
    }

    static void run() {
        runQueries();
        runRows();
        runWordsNodesLetters();
        check("count: BAD", AskBoundaryTests::countBad);
        check("count: the most of each", AskBoundaryTests::countsAtTheMost);
        check("asked, and nothing is changed", AskBoundaryTests::askingChangesNothing);
    }

    public static void main(String[] args) {
        run();
        end();
    }
}
