import java.util.ArrayDeque;
import java.util.ArrayList;
import java.util.Deque;
import java.util.LinkedHashMap;
import java.util.List;
import java.util.Map;
import java.util.Random;
import java.util.TreeSet;
import java.util.regex.Matcher;
import java.util.regex.Pattern;

/** Long runs of calls, each answer held against a model that follows the document's words over plain texts. */
public final class ModelTests {
    private static final int BAD = -1, STATE = -2, FULL = -3, NONE = -9;
    private static final int RUNS = 1500, CALLS = 512;
    private static final String ALPHABET = "abcdefgh";

    private record Part(char sort, String v, String w, int d) {
    }

    private record Kept(List<List<Part>> queries, String letters) {
    }

    private static final class Fault extends RuntimeException {
        private static final long serialVersionUID = 1L;
        final int place;

        Fault(int place) {
            this.place = place;
        }
    }

    private record Token(String text, int place) {
    }

    private static final class Model {
        List<List<Part>> queries = new ArrayList<>();
        String letters = "";
        String text = "";
        final Deque<Kept> undone = new ArrayDeque<>();
        final Kept[] images = new Kept[2];

        Kept held() {
            return new Kept(new ArrayList<>(queries), letters);
        }

        void become(Kept kept) {
            queries = new ArrayList<>(kept.queries);
            letters = kept.letters;
        }

        void remember() {
            undone.push(held());
            if (undone.size() > 10) {
                undone.removeLast();
            }
        }

        long type(int c) {
            if (c < 0 || c > 255) {
                return BAD;
            }
            if (text.length() == 150) {
                return FULL;
            }
            text += (char) c;
            return text.length();
        }

        long clear() {
            long had = text.length();
            text = "";
            return had;
        }

        long adds() {
            List<List<Part>> told;
            try {
                told = told();
            } catch (Fault fault) {
                return -10 - fault.place;
            }
            remember();
            queries.addAll(told);
            text = "";
            return told.size();
        }

        List<Token> tokens() {
            List<Token> tokens = new ArrayList<>();
            Matcher m = Pattern.compile("[a-z]+|[0-9]+|[^ ]", Pattern.DOTALL).matcher(text);
            while (m.find()) {
                tokens.add(new Token(m.group(), m.start()));
            }
            tokens.add(new Token("", text.length()));
            return tokens;
        }

        /** The queries of the text, item by item; the first token that can't stand there is thrown. */
        List<List<Part>> told() {
            List<List<Part>> told = new ArrayList<>();
            TreeSet<String> words = words();
            Deque<Token> rest = new ArrayDeque<>(tokens());
            while (rest.size() > 1) {
                Token head = rest.pop();
                List<Part> open = told.isEmpty() ? null : told.get(told.size() - 1);
                stand(head, List.of("q", "h", "n", "p").contains(head.text));
                if (head.text.equals("q")) {
                    stand(head, (open == null || !open.isEmpty()) && queries.size() + told.size() < 8);
                    told.add(new ArrayList<>());
                } else {
                    char sort = head.text.charAt(0);
                    stand(head, open != null && open.size() < 4);
                    stand(head, sort != 'p' || open.stream().noneMatch(p -> p.sort == 'p'));
                    String v = sort == 'p' ? word(rest.pop(), words) : null;
                    String w = word(rest.pop(), words);
                    int d = NONE;
                    if (sort == 'p') {
                        Token number = rest.pop();
                        stand(number, number.text.matches("[1-9]"));
                        d = Integer.parseInt(number.text);
                    }
                    open.add(new Part(sort, v, w, d));
                }
                Token stop = rest.pop();
                stand(stop, stop.text.equals(";"));
            }
            stand(rest.pop(), told.isEmpty() || !told.get(told.size() - 1).isEmpty());
            return told;
        }

        static void stand(Token token, boolean can) {
            if (!can) {
                throw new Fault(token.place);
            }
        }

        static String word(Token token, TreeSet<String> words) {
            stand(token, token.text.matches("[a-h]{1,6}"));
            words.add(token.text);
            stand(token, words.size() <= 16);
            return token.text;
        }

        long drops(int q) {
            if (!isQuery(q)) {
                return BAD;
            }
            remember();
            queries.remove(q);
            return queries.size();
        }

        long feeds(int letter) {
            if (letter < 'a' || letter > 'h') {
                return BAD;
            }
            if (letters.length() == 40) {
                return FULL;
            }
            remember();
            letters += (char) letter;
            return now(0);
        }

        long cuts() {
            if (letters.isEmpty()) {
                return STATE;
            }
            remember();
            int letter = letters.charAt(letters.length() - 1);
            letters = letters.substring(0, letters.length() - 1);
            return letter;
        }

        long undo() {
            if (undone.isEmpty()) {
                return STATE;
            }
            become(undone.pop());
            return undone.size();
        }

        boolean isQuery(int q) {
            return q >= 0 && q < queries.size();
        }

        static TreeSet<String> wordsOf(List<Part> query) {
            TreeSet<String> words = new TreeSet<>();
            for (Part p : query) {
                words.add(p.w);
                if (p.v != null) {
                    words.add(p.v);
                }
            }
            return words;
        }

        TreeSet<String> words() {
            TreeSet<String> words = new TreeSet<>();
            queries.forEach(query -> words.addAll(wordsOf(query)));
            return words;
        }

        int number(String word) {
            return word == null ? NONE : words().headSet(word).size();
        }

        static TreeSet<String> headsOf(TreeSet<String> words) {
            TreeSet<String> heads = new TreeSet<>();
            heads.add("");
            for (String word : words) {
                for (int n = 1; n <= word.length(); n++) {
                    heads.add(word.substring(0, n));
                }
            }
            return heads;
        }

        List<String> nodes() {
            List<String> nodes = new ArrayList<>(headsOf(words()));
            nodes.sort((x, y) -> x.length() != y.length() ? x.length() - y.length() : x.compareTo(y));
            return nodes;
        }

        static List<Integer> hits(String row, String word) {
            List<Integer> hits = new ArrayList<>();
            for (int i = 0; i < row.length(); i++) {
                if (row.substring(0, i + 1).endsWith(word)) {
                    hits.add(i);
                }
            }
            return hits;
        }

        static boolean holds(Part p, String row) {
            List<Integer> ends = hits(row, p.w);
            if (p.sort == 'h') {
                return !ends.isEmpty();
            }
            if (p.sort == 'n') {
                return ends.isEmpty();
            }
            for (int v : hits(row, p.v)) {
                for (int w : ends) {
                    if (w - v >= 1 && w - v <= p.d) {
                        return true;
                    }
                }
            }
            return false;
        }

        static boolean matches(List<Part> query, String row) {
            return query.stream().allMatch(p -> holds(p, row));
        }

        long since(List<Part> query) {
            long since = NONE;
            for (int n = letters.length(); n >= 0 && matches(query, letters.substring(0, n)); n--) {
                since = n;
            }
            return since;
        }

        static String key(List<Part> query) {
            TreeSet<String> has = new TreeSet<>();
            query.stream().filter(p -> p.sort == 'h').forEach(p -> has.add(p.w));
            String key = null;
            for (String word : has) {
                if (key == null || word.length() > key.length()) {
                    key = word;
                }
            }
            return key;
        }

        boolean isAsked(List<Part> query) {
            return key(query) == null || letters.contains(key(query));
        }

        long query(int q, int what) {
            if (!isQuery(q) || what < 0 || what > 4) {
                return BAD;
            }
            List<Part> query = queries.get(q);
            long[] answers = {query.size(), matches(query, letters) ? 1 : 0, since(query), number(key(query)),
                isAsked(query) ? 1 : 0};
            return answers[what];
        }

        long part(int q, int k, int what) {
            if (!isQuery(q) || k < 0 || k >= queries.get(q).size() || what < 0 || what > 4) {
                return BAD;
            }
            Part p = queries.get(q).get(k);
            long[] answers = {"hnp".indexOf(p.sort), number(p.w), number(p.v), p.d, holds(p, letters) ? 1 : 0};
            return answers[what];
        }

        /** What of a row tells how it can go on: null, if no row that begins so can match. */
        static String summary(List<Part> query, TreeSet<String> heads, String row) {
            String tail = row;
            while (!heads.contains(tail)) {
                tail = tail.substring(1);
            }
            StringBuilder summary = new StringBuilder(tail);
            for (Part p : query) {
                boolean holds = holds(p, row);
                if (p.sort == 'n' && !holds) {
                    return null;
                }
                summary.append(holds ? '+' : '-');
                if (p.sort == 'p' && !holds) {
                    List<Integer> v = hits(row, p.v);
                    int age = v.isEmpty() ? 9 : row.length() - 1 - v.get(v.size() - 1);
                    summary.append(Math.min(age, 9));
                }
            }
            return summary.toString();
        }

        /** The first shortest row that goes on from a beginning and matches, or null. */
        static String firstRow(List<Part> query, String begin) {
            TreeSet<String> heads = headsOf(wordsOf(query));
            Map<String, String> seen = new LinkedHashMap<>();
            Deque<String> rows = new ArrayDeque<>(List.of(begin));
            if (matches(query, begin)) {
                return begin;
            }
            while (!rows.isEmpty()) {
                String row = rows.pop();
                for (int c = 0; c < 8 && row.length() - begin.length() < 60; c++) {
                    String then = row + ALPHABET.charAt(c);
                    String summary = summary(query, heads, then);
                    if (summary != null && seen.putIfAbsent(summary, then) == null) {
                        if (matches(query, then)) {
                            return then;
                        }
                        rows.add(then);
                    }
                }
            }
            return null;
        }

        long shortest(int q, int k) {
            if (!isQuery(q) || k < -1) {
                return BAD;
            }
            String row = firstRow(queries.get(q), "");
            if (row == null) {
                return NONE;
            }
            return k == -1 ? row.length() : k < row.length() ? row.charAt(k) : NONE;
        }

        long more(int q) {
            if (!isQuery(q)) {
                return BAD;
            }
            if (queries.get(q).stream().anyMatch(p -> p.sort == 'n' && letters.contains(p.w))) {
                return NONE;
            }
            String row = firstRow(queries.get(q), letters);
            return row == null ? NONE : row.length() - letters.length();
        }

        long many(int q, int n) {
            if (!isQuery(q) || n < 0 || n > 12) {
                return BAD;
            }
            List<Part> query = queries.get(q);
            return n <= 3 ? enumerated(query, "", n) : counted(query, n);
        }

        static long enumerated(List<Part> query, String row, int more) {
            if (more == 0) {
                return matches(query, row) ? 1 : 0;
            }
            long sum = 0;
            for (int c = 0; c < 8; c++) {
                sum += enumerated(query, row + ALPHABET.charAt(c), more - 1);
            }
            return sum;
        }

        static long counted(List<Part> query, int n) {
            TreeSet<String> heads = headsOf(wordsOf(query));
            Map<String, String> rows = new LinkedHashMap<>();
            Map<String, Long> ways = new LinkedHashMap<>();
            rows.put("", "");
            ways.put("", 1L);
            for (int i = 0; i < n; i++) {
                Map<String, String> rowsThen = new LinkedHashMap<>();
                Map<String, Long> waysThen = new LinkedHashMap<>();
                for (String summary : rows.keySet()) {
                    for (int c = 0; c < 8; c++) {
                        String row = rows.get(summary) + ALPHABET.charAt(c);
                        String then = summary(query, heads, row);
                        if (then != null) {
                            rowsThen.putIfAbsent(then, row);
                            waysThen.merge(then, ways.get(summary), Long::sum);
                        }
                    }
                }
                rows = rowsThen;
                ways = waysThen;
            }
            long sum = 0;
            for (String summary : rows.keySet()) {
                sum += matches(query, rows.get(summary)) ? ways.get(summary) : 0;
            }
            return sum;
        }

        long word(int w, int i) {
            List<String> words = new ArrayList<>(words());
            if (w < 0 || w >= words.size() || i < -1) {
                return BAD;
            }
            String word = words.get(w);
            return i == -1 ? word.length() : i < word.length() ? word.charAt(i) : NONE;
        }

        long hit(int w, int k) {
            List<String> words = new ArrayList<>(words());
            if (w < 0 || w >= words.size() || k < -1) {
                return BAD;
            }
            List<Integer> hits = hits(letters, words.get(w));
            return k == -1 ? hits.size() : k < hits.size() ? hits.get(k) : NONE;
        }

        /** The node of the longest ending of a row that is one. */
        static int nodeOf(List<String> nodes, String row) {
            String tail = row;
            while (!nodes.contains(tail)) {
                tail = tail.substring(1);
            }
            return nodes.indexOf(tail);
        }

        long node(int n, int what) {
            List<String> nodes = nodes();
            if (n < 0 || n >= nodes.size() || what < 0 || what > 4) {
                return BAD;
            }
            String row = nodes.get(n);
            int size = row.length();
            if (n == 0) {
                return what == 0 || what == 4 ? 0 : NONE;
            }
            int ends = 0;
            for (String word : words()) {
                ends |= row.endsWith(word) ? 1 << number(word) : 0;
            }
            long[] answers = {size, row.charAt(size - 1), nodes.indexOf(row.substring(0, size - 1)),
                nodeOf(nodes, row.substring(1)), ends};
            return answers[what];
        }

        long next(int n, int letter) {
            List<String> nodes = nodes();
            if (n < 0 || n >= nodes.size() || letter < 'a' || letter > 'h') {
                return BAD;
            }
            return nodeOf(nodes, nodes.get(n) + (char) letter);
        }

        long letter(int i) {
            return i < 0 || i >= letters.length() ? BAD : letters.charAt(i);
        }

        long now(int what) {
            if (what < 0 || what > 5) {
                return BAD;
            }
            if (what == 0) {
                return nodeOf(nodes(), letters);
            }
            if (what == 5) {
                return words().stream().mapToInt(word -> hits(letters, word).size()).sum();
            }
            long bits = 0;
            for (int q = 0; q < queries.size(); q++) {
                List<Part> query = queries.get(q);
                boolean match = matches(query, letters);
                boolean before = letters.isEmpty() ? match : matches(query, letters.substring(0, letters.length() - 1));
                boolean[] bit = {false, match, match && !before, !match && before, isAsked(query)};
                bits |= bit[what] ? 1 << q : 0;
            }
            return bits;
        }

        long keep(int image) {
            if (image < 0 || image > 1) {
                return BAD;
            }
            images[image] = held();
            return queries.size();
        }

        long back(int image) {
            if (image < 0 || image > 1) {
                return BAD;
            }
            if (images[image] == null) {
                return STATE;
            }
            become(images[image]);
            undone.clear();
            return queries.size();
        }

        long count(int what) {
            long[] answers = {queries.size(), words().size(), nodes().size(), letters.length(), undone.size(), text.length()};
            return what < 0 || what > 5 ? BAD : answers[what];
        }
    }

    private static int wrong = 0;
    private static long compared = 0;

    private final Random random;
    private final int run;
    private final int spread;
    private final int longest;
    private final StandingQueries real = new StandingQueries();
    private final Model model = new Model();
    private final StringBuilder log = new StringBuilder();
    private int calls = 0;

    private ModelTests(int run) {
        this.run = run;
        random = new Random(run);
        int[] spreads = {2, 2, 3, 4, 8};
        spread = spreads[random.nextInt(spreads.length)];
        longest = 1 + random.nextInt(6);
    }

    private void same(String call, long got, long want) {
        calls++;
        compared++;
        if (!call.startsWith("type")) {
            log.append(call).append(" = ").append(want).append("; ");
        }
        if (got != want) {
            wrong++;
            if (wrong <= 10) {
                System.out.println("run " + run + ": " + log + "but answered " + got);
            }
        }
    }

    private String randomWord() {
        StringBuilder word = new StringBuilder();
        int size = 1 + random.nextInt(longest);
        for (int i = 0; i < size; i++) {
            word.append(ALPHABET.charAt(random.nextInt(spread)));
        }
        return word.toString();
    }

    private String blanks() {
        return random.nextInt(12) == 0 ? " ".repeat(1 + random.nextInt(2)) : "";
    }

    private String randomText() {
        StringBuilder text = new StringBuilder(blanks());
        int queries = random.nextInt(10) == 0 ? 9 : random.nextInt(4);
        for (int q = 0; q < queries; q++) {
            text.append("q").append(blanks()).append(";");
            int parts = 1 + random.nextInt(random.nextInt(20) == 0 ? 5 : 4);
            int near = random.nextInt(2) == 0 ? random.nextInt(4) : -1;
            for (int k = 0; k < parts; k++) {
                if (k == near || random.nextInt(40) == 0) {
                    text.append("p ").append(randomWord()).append(" ").append(randomWord()).append(" ")
                        .append(1 + random.nextInt(random.nextInt(30) == 0 ? 10 : 9));
                } else {
                    text.append(random.nextInt(3) == 0 ? "n " : "h ").append(randomWord());
                }
                text.append(blanks()).append(";").append(blanks());
            }
        }
        return random.nextInt(4) == 0 ? spoilt(text) : text.toString();
    }

    private String spoilt(StringBuilder text) {
        String bytes = " ;;qhnpabchiz0123459AZ\t\u00e9";
        int at = random.nextInt(text.length() + 1);
        char c = bytes.charAt(random.nextInt(bytes.length()));
        int how = random.nextInt(4);
        if (how == 0 || at == text.length()) {
            text.insert(at, c);
        } else if (how == 1) {
            text.setCharAt(at, c);
        } else if (how == 2) {
            text.deleteCharAt(at);
        } else {
            text.setLength(at);
        }
        return text.toString();
    }

    private void addText() {
        String text = randomText();
        if (calls + text.length() + 2 > CALLS) {
            return;
        }
        log.append("'").append(text).append("' ");
        for (int i = 0; i < text.length(); i++) {
            int c = text.charAt(i);
            same("type(" + c + ")", real.type(c), model.type(c));
        }
        same("adds()", real.adds(), model.adds());
        if (random.nextInt(8) != 0) {
            same("clear()", real.clear(), model.clear());
        }
    }

    private int around(int below) {
        return random.nextInt(25) == 0 ? -1 - random.nextInt(2) : random.nextInt(Math.max(1, below) + random.nextInt(2));
    }

    private int fewFromMinusOne(int most) {
        return random.nextInt(20) == 0 ? -2 : random.nextInt(most + 2) - 1;
    }

    private int randomLetter() {
        return random.nextInt(40) == 0 ? 95 + random.nextInt(12) : 97 + random.nextInt(random.nextInt(6) == 0 ? 8 : spread);
    }

    private void change() {
        int q = around(model.queries.size());
        int image = around(2);
        switch (random.nextInt(16)) {
            case 0, 1 -> addText();
            case 2 -> same("drops(" + q + ")", real.drops(q), model.drops(q));
            case 3 -> same("cuts()", real.cuts(), model.cuts());
            case 4, 5 -> same("undo()", real.undo(), model.undo());
            case 6 -> same("keep(" + image + ")", real.keep(image), model.keep(image));
            case 7 -> same("back(" + image + ")", real.back(image), model.back(image));
            default -> {
                int c = randomLetter();
                same("feeds(" + c + ")", real.feeds(c), model.feeds(c));
            }
        }
    }

    private void ask() {
        int q = around(model.queries.size());
        int k = around(4);
        int what = around(5);
        int w = around(model.words().size());
        int n = around(model.nodes().size());
        int i = fewFromMinusOne(7);
        int c = randomLetter();
        switch (random.nextInt(14)) {
            case 0, 1 -> same("query(" + q + ", " + what + ")", real.query(q, what), model.query(q, what));
            case 2 -> same("part(" + q + ", " + k + ", " + what + ")", real.part(q, k, what), model.part(q, k, what));
            case 3 -> same("shortest(" + q + ", " + i + ")", real.shortest(q, i), model.shortest(q, i));
            case 4, 5 -> same("more(" + q + ")", real.more(q), model.more(q));
            case 6 -> {
                int rows = random.nextInt(10) == 0 ? around(13) : random.nextInt(6);
                same("many(" + q + ", " + rows + ")", real.many(q, rows), model.many(q, rows));
            }
            case 7 -> same("word(" + w + ", " + i + ")", real.word(w, i), model.word(w, i));
            case 8 -> same("hit(" + w + ", " + i + ")", real.hit(w, i), model.hit(w, i));
            case 9 -> same("node(" + n + ", " + what + ")", real.node(n, what), model.node(n, what));
            case 10 -> same("next(" + n + ", " + c + ")", real.next(n, c), model.next(n, c));
            case 11 -> {
                int place = around(model.letters.length());
                same("letter(" + place + ")", real.letter(place), model.letter(place));
            }
            case 12 -> {
                int sort = around(6);
                same("now(" + sort + ")", real.now(sort), model.now(sort));
            }
            default -> {
                int sort = around(6);
                same("count(" + sort + ")", real.count(sort), model.count(sort));
            }
        }
    }

    private void go() {
        addText();
        for (int i = 0; i < CALLS && calls < CALLS && wrong == 0; i++) {
            if (random.nextInt(5) < 2) {
                change();
            } else {
                ask();
            }
        }
    }

    public static void main(String[] args) {
        int runs = args.length > 0 ? Integer.parseInt(args[0]) : RUNS;
        for (int run = 0; run < runs && wrong == 0; run++) {
            new ModelTests(run).go();
        }
        System.out.println(wrong == 0 ? compared + " answers are the model's" : "an answer is not the model's");
        if (wrong != 0) {
            System.exit(1);
        }
    }
}
