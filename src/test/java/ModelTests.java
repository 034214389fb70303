import java.util.ArrayList;
import java.util.HashSet;
import java.util.List;
import java.util.Set;
import java.util.TreeSet;

// Long runs of calls, each answer held against a second, slow telling of the document that shares no code with the class.
public final class ModelTests {
    private static final int RUNS = 480, CALLS = 160;
    // What a run is bent to: nothing; tongues of few words each; few words at all, so that lines fit; sheets; full books.
    private static final int SPARSE = 1, FEW = 2, SHEETS = 3, LONG = 4, BENTS = 5;
    private static long chance = 20261119;
    private static int bent = 0;

    private static int below(int n) {
        chance = chance * 6364136223846793005L + 1442695040888963407L;
        return (int) ((chance >>> 33) % n);
    }

    // Mostly a number that is as told, now and then one at or past the edges.
    private static int number(int low, int high) {
        int[] edges = {low - 1, high + 1, low, high, Integer.MIN_VALUE, Integer.MAX_VALUE, -1};
        return below(14) == 0 ? edges[below(edges.length)] : low + below(high - low + 1);
    }

    private static int word() {
        return bent == FEW ? number(0, 2) : number(0, 7);
    }

    private static int row(int n) {
        int digits = Math.max(0, Math.min(6, n));
        int words = 0;
        for (int i = 0; i < digits; i++) {
            words = words * 8 + (bent == FEW ? below(3) : below(8));
        }
        return below(14) == 0 ? number(0, (1 << 3 * digits) - 1) : words;
    }

    private static int set() {
        int set = number(0, 255);
        return bent == SPARSE ? set & below(256) & below(256) : bent == LONG ? set | below(256) : set;
    }

    private static String text(boolean ofTongue) {
        StringBuilder text = new StringBuilder();
        int groups = below(8) == 0 ? 8 + below(2) : 1 + below(4);
        for (int group = 0; group < (ofTongue ? groups : 1); group++) {
            if (group > 0) {
                text.append(';');
            }
            if (ofTongue && below(6) == 0) {
                text.append('-');
                continue;
            }
            int letters = ofTongue ? 0 : below(26);
            for (int i = 0; i < letters; i++) {
                text.append((char) ('a' + (bent == FEW ? below(3) : below(8))));
            }
            int set = bent == SPARSE ? 1 << below(8) | 1 << below(8) : 1 + below(255);
            for (int word = 0; ofTongue && word < 8; word++) {
                if ((set >> word & 1) != 0) {
                    text.append((char) ('a' + word));
                }
            }
        }
        while (below(5) == 0) {
            text.insert(below(text.length() + 1), ' ');
        }
        if (below(8) == 0 && text.length() > 0) {
            text.setCharAt(below(text.length()), "ai;-h~ b".charAt(below(8)));
        }
        return text.toString();
    }

    private static int[] call(int method) {
        int cell = number(0, 5), word = word();
        boolean plain = bent == SHEETS && below(5) != 0;
        int sheet = plain ? below(2) : number(0, 3), lane = plain || below(3) != 0 ? sheet & 1 : number(0, 2);
        int from = below(3) == 0 ? number(0, 24) : 0;
        int n;
        switch (method) {
            case 0: return new int[] {word, set()};
            case 1: n = number(1, 4); return new int[] {row(n), n};
            case 2: return new int[] {number(0, 3)};
            case 3: return new int[] {cell, word, number(0, 9)};
            case 4: return new int[] {cell, below(3) == 0 ? 1 : 0};
            case 5: return new int[] {cell, number(0, 5)};
            case 6: return new int[] {below(2)};
            case 7: return new int[] {cell, number(0, 10)};
            case 9: case 10: return new int[] {};
            case 11: return new int[] {number(0, 7)};
            case 12: return new int[] {number(0, 30), number(0, 1)};
            case 13: return new int[] {cell};
            case 14: return new int[] {cell, word, number(0, 1)};
            case 15: return new int[] {word};
            case 16: return new int[] {bent == LONG || below(6) == 0 ? number(1, 60) : number(1, 6)};
            case 17: return new int[] {number(0, Integer.MAX_VALUE - 1)};
            case 18: return new int[] {bent != LONG && below(4) == 0 ? number(1, 60) : number(1, 4)};
            case 19: n = number(1, 3); return new int[] {row(n), n};
            case 20: return new int[] {};
            case 21: return new int[] {word, number(1, 4)};
            case 22: return new int[] {number(0, 30)};
            case 23: return new int[] {cell, word};
            case 24: return new int[] {number(0, 20)};
            case 25: return new int[] {number(0, 1)};
            case 26: n = number(1, 6); return new int[] {row(n), n, number(-1, 5)};
            case 27: case 28: return new int[] {};
            case 29: return new int[] {sheet, lane, from, below(2) == 0 ? number(1, 12) : number(1, 4)};
            case 30: return new int[] {number(0, 60) % 30, sheet, lane, from, number(1, 24)};
            case 31: return new int[] {sheet, lane, below(3) == 0 ? number(0, 24) : 24};
            case 32: return new int[] {sheet};
            case 33: return new int[] {sheet, lane, plain ? below(6) : number(0, 23), (plain ? below(4) : number(-1, 7)) + (below(5) == 0 ? 256 << below(9) : 0)};
            default: return new int[] {below(12), number(1, 12), sheet, lane, from};
        }
    }

    private static int answer(SlipWheel x, int method, int[] a) {
        switch (method) {
            case 0: return x.follow(a[0], a[1]);
            case 1: return x.line(a[0], a[1]);
            case 2: return x.cell(a[0]);
            case 3: return x.weight(a[0], a[1], a[2]);
            case 4: return x.dead(a[0], a[1] != 0);
            case 5: return x.swap(a[0], a[1]);
            case 6: return x.turn(a[0] != 0);
            case 7: return x.told(a[0], a[1]);
            case 9: return x.tongue();
            case 10: return x.book();
            case 11: return x.count(a[0]);
            case 12: return x.read(a[0], a[1]);
            case 13: return x.come(a[0]);
            case 14: return x.odds(a[0], a[1], a[2]);
            case 15: return x.add(a[0]);
            case 16: return x.draw(a[0]);
            case 17: return x.seed(a[0]);
            case 18: return x.undo(a[0]);
            case 19: return x.reach(a[0], a[1]);
            case 20: return x.end();
            case 21: return x.soon(a[0], a[1]);
            case 22: return x.forget(a[0]);
            case 23: return x.habit(a[0], a[1]);
            case 24: return x.guess(a[0]);
            case 25: return x.prevented(a[0]);
            case 26: return x.seated(a[0], a[1], a[2]);
            case 27: return x.image();
            case 28: return x.restore();
            case 29: return x.ways(a[0], a[1], a[2], a[3]);
            case 30: return x.differ(a[0], a[1], a[2], a[3], a[4]);
            case 31: return x.sheet(a[0], a[1], a[2]);
            case 32: return x.drop(a[0]);
            case 33: return x.item(a[0], a[1], a[2], a[3]);
            default: return x.film(a[0], a[1], a[2], a[3], a[4]);
        }
    }

    private static boolean typesAlike(SlipWheel x, Model model, String text) {
        boolean alike = true;
        for (int from = 0; from < text.length(); from += 8) {
            String part = text.substring(from, Math.min(text.length(), from + 8));
            long w = (long) below(1000) << 56;
            for (char c : part.toCharArray()) {
                w = w << 8 | c;
            }
            alike &= x.type(w, part.length()) == model.type(part);
        }
        return alike;
    }

    private static int method(int step) {
        // A wheel of some cells first, lines and dead cells seldom, so that books go on for a while.
        if (step < 3) {
            return 2;
        }
        if (step == 3 && bent == SPARSE) {
            return 9;
        }
        if (bent == SHEETS && below(2) == 0) {
            return below(3) == 0 ? 29 : below(8) == 0 ? 31 : 33;
        }
        int method = below(35);
        boolean seldom = method <= 5 || method == 9 || method == 10 || method == 18 || method == 28;
        return seldom && below(3) != 0 ? 15 + below(2) : method;
    }

    private static boolean runsAlike(int run) {
        SlipWheel x = new SlipWheel();
        Model model = new Model();
        for (int step = 0; step < CALLS; step++) {
            int method = method(step);
            if (method == 8) {
                boolean ofTongue = below(2) == 0;
                if (!typesAlike(x, model, text(ofTongue))) {
                    System.out.println("run " + run + ", step " + step + ": type");
                    return false;
                }
                method = (ofTongue ? 9 : 10) ^ (below(10) == 0 ? 3 : 0);
            }
            int[] arguments = call(method);
            int got = answer(x, method, arguments);
            int want = model.answer(method, arguments);
            if (got != want) {
                System.out.println("run " + run + ", step " + step + ": method " + method + java.util.Arrays.toString(arguments) + " answered " + got + ", due is " + want);
                return false;
            }
        }
        return true;
    }

    public static void main(String[] args) {
        int wrong = 0;
        for (int run = 0; run < RUNS && wrong < 10; run++) {
            bent = run % BENTS;
            if (!runsAlike(run)) {
                wrong++;
            }
        }
        System.out.println(RUNS + " runs of " + CALLS + " calls, " + wrong + " not alike");
        if (wrong != 0) {
            System.exit(1);
        }
    }

    private static final class Model implements Cloneable {
        private static final int BAD = -1, NOT = -2, FULL = -3, NONE = -4, NULL = -11, CAST = -12, INDEX = -13, SIZE = -14;
        private boolean[][] follows = new boolean[8][8];
        private List<List<Integer>> lines = new ArrayList<>();
        private List<Integer> kinds = new ArrayList<>();
        private List<Integer> wheel = new ArrayList<>();
        private List<int[]> weights = new ArrayList<>();
        private List<Boolean> deaths = new ArrayList<>();
        private List<Integer> words = new ArrayList<>();
        private List<Integer> writers = new ArrayList<>();
        private int standing, turns, back;
        private long lot = 1;
        private Model image;
        private String tape = "";
        private Object[] sheets = new Object[4];

        Model() {
            for (boolean[] row : follows) {
                java.util.Arrays.fill(row, true);
            }
        }

        int type(String part) {
            for (char c : part.toCharArray()) {
                if (c < 32 || c > 126) {
                    return BAD;
                }
            }
            if (tape.length() + part.length() > 80) {
                return FULL;
            }
            tape += part;
            return tape.length();
        }

        private boolean cell(int cell) {
            return cell >= 0 && cell < kinds.size();
        }

        private static boolean in(int v, int low, int high) {
            return v >= low && v <= high;
        }

        private static List<Integer> row(int words, int n, int longest) {
            List<Integer> row = new ArrayList<>();
            if (!in(n, 1, longest) || words < 0) {
                return null;
            }
            for (int i = 0; i < n; i++) {
                row.add(0, words % 8);
                words /= 8;
            }
            return words == 0 ? row : null;
        }

        private static boolean endsWith(List<Integer> book, List<Integer> end) {
            return book.size() >= end.size() && book.subList(book.size() - end.size(), book.size()).equals(end);
        }

        private boolean may(List<Integer> book, int word, int longest) {
            List<Integer> then = plus(book, word);
            for (List<Integer> line : lines) {
                if (line.size() <= longest && endsWith(then, line)) {
                    return false;
                }
            }
            return book.isEmpty() || follows[book.get(book.size() - 1)][word];
        }

        private static List<Integer> plus(List<Integer> book, int word) {
            List<Integer> then = new ArrayList<>(book);
            then.add(word);
            return then;
        }

        private Set<Integer> come(int cell, List<Integer> book) {
            Set<Integer> come = new TreeSet<>();
            int kind = kinds.get(cell);
            for (int word = 0; word < 8; word++) {
                boolean may = kind == 1 || kind != 3 && may(book, word, kind == 2 ? 2 : 4);
                if (may && weights.get(cell)[word] > 0) {
                    come.add(word);
                }
            }
            return come;
        }

        private static int bits(Iterable<Integer> set) {
            int bits = 0;
            for (int member : set) {
                bits |= 1 << member;
            }
            return bits;
        }

        private boolean someLive() {
            return deaths.contains(false);
        }

        private int next(int seat, int step) {
            do {
                seat = (seat + step + wheel.size()) % wheel.size();
            } while (deaths.get(wheel.get(seat)));
            return seat;
        }

        private int step() {
            return back == 1 ? -1 : 1;
        }

        private int seatNow() {
            return deaths.get(wheel.get(standing)) ? next(standing, step()) : standing;
        }

        private void goOn() {
            standing = next(seatNow(), step());
            turns++;
        }

        private int sum(int cell, Set<Integer> set) {
            int sum = 0;
            for (int word : set) {
                sum += weights.get(cell)[word];
            }
            return sum;
        }

        private int habit(int cell, int word) {
            int times = 0;
            for (int i = 0; i < words.size(); i++) {
                times += writers.get(i) == cell && words.get(i) == word ? 1 : 0;
            }
            return times;
        }

        private void drawTurn() {
            int cell = wheel.get(seatNow());
            Set<Integer> come = come(cell, words);
            if (words.size() < 60 && !come.isEmpty()) {
                lot = (lot * 1103515245L + 12345L) % (1L << 31);
                List<Integer> lots = new ArrayList<>();
                for (int word : come) {
                    for (int i = 0; i < weights.get(cell)[word]; i++) {
                        lots.add(word);
                    }
                }
                words.add(lots.get((int) (lot / 65536 % lots.size())));
                writers.add(cell);
            }
            goOn();
        }

        private boolean nobodyCan(List<Integer> book) {
            for (int cell = 0; cell < kinds.size(); cell++) {
                if (!deaths.get(cell) && !come(cell, book).isEmpty()) {
                    return false;
                }
            }
            return true;
        }

        private int fewest(List<Integer> aim) {
            if (!someLive()) {
                return NONE;
            }
            Set<List<Integer>> books = new HashSet<>();
            books.add(new ArrayList<>(words.subList(Math.max(0, words.size() - 3), words.size())));
            int seat = seatNow();
            for (int turn = 0; turn <= 30; turn++) {
                Set<List<Integer>> then = new HashSet<>();
                for (List<Integer> book : books) {
                    if (aim == null ? nobodyCan(book) : endsWith(book, aim)) {
                        return turn;
                    }
                    Set<Integer> come = come(wheel.get(seat), book);
                    for (int word : come) {
                        List<Integer> longer = plus(book, word);
                        then.add(new ArrayList<>(longer.subList(Math.max(0, longer.size() - 3), longer.size())));
                    }
                    if (come.isEmpty()) {
                        then.add(book);
                    }
                }
                books = then;
                seat = next(seat, step());
            }
            return NONE;
        }

        private int soon(int seat, List<Integer> book, int word, int n) {
            if (n == 0) {
                return 0;
            }
            int cell = wheel.get(seat);
            Set<Integer> come = come(cell, book);
            int then = next(seat, step());
            if (come.isEmpty()) {
                return soon(then, book, word, n - 1);
            }
            long together = 0;
            for (int other : come) {
                together += (long) weights.get(cell)[other] * (other == word ? 1000 : soon(then, plus(book, other), word, n - 1));
            }
            return (int) (together / sum(cell, come));
        }

        private int prevented(int what) {
            for (int place = 0; place < words.size(); place++) {
                for (List<Integer> line : lines) {
                    if (endsWith(words.subList(0, place + 1), line)) {
                        return what == 0 ? place : preventers(place + 1 - line.size(), place);
                    }
                }
            }
            return NONE;
        }

        private int preventers(int first, int last) {
            Set<Integer> who = new TreeSet<>();
            for (int place = first; place <= last; place++) {
                int writer = writers.get(place);
                if (writer >= 0) {
                    Set<Integer> come = come(writer, words.subList(0, place));
                    come.remove(words.get(place));
                    if (!come.isEmpty()) {
                        who.add(writer);
                    }
                }
            }
            return bits(who);
        }

        private void orders(List<Integer> row, List<Integer> psalm, List<List<Integer>> found) {
            boolean whole = true;
            for (int cell = 0; cell < kinds.size(); cell++) {
                if (!deaths.get(cell) && !row.contains(cell)) {
                    whole = false;
                    orders(plus(row, cell), psalm, found);
                }
            }
            if (!whole || row.isEmpty()) {
                return;
            }
            List<Integer> book = new ArrayList<>(words);
            for (int i = 0; i < psalm.size(); i++) {
                if (!come(row.get(i % row.size()), book).contains(psalm.get(i))) {
                    return;
                }
                book.add(psalm.get(i));
            }
            found.add(row);
        }

        private int seated(List<Integer> psalm, int k) {
            int living = java.util.Collections.frequency(deaths, false);
            if (psalm == null || k < -1 || k >= living) {
                return BAD;
            }
            List<List<Integer>> found = new ArrayList<>();
            orders(new ArrayList<>(), psalm, found);
            if (found.isEmpty()) {
                return NONE;
            }
            return k < 0 ? found.size() : found.get(0).get(k);
        }

        private int guess(int place) {
            if (!in(place, 0, words.size() - 1)) {
                return BAD;
            }
            if (writers.get(place) >= 0) {
                return NOT;
            }
            int best = NONE, most = Integer.MIN_VALUE;
            for (int cell = kinds.size() - 1; cell >= 0; cell--) {
                int all = java.util.Collections.frequency(writers, cell);
                int worth = 16 * (habit(cell, words.get(place)) + 1) / (all + 8);
                if (kinds.get(cell) != 3 && worth >= most) {
                    best = cell;
                    most = worth;
                }
            }
            return best;
        }

        private static int laneOf(Object row) {
            return row instanceof byte[] ? 0 : row instanceof short[] ? 1 : 2;
        }

        private int refusal(int sheet, int lane, long from, int n) {
            Object row = sheets[sheet];
            if (row == null) {
                return NULL;
            }
            if (laneOf(row) != lane) {
                return CAST;
            }
            return from < 0 || from + n > java.lang.reflect.Array.getLength(row) ? INDEX : 0;
        }

        private static int itemOf(Object row, int i) {
            return ((Number) java.lang.reflect.Array.get(row, i)).intValue();
        }

        private static void put(Object row, int i, int v) {
            if (row instanceof byte[] bytes) {
                bytes[i] = (byte) v;
            } else if (row instanceof short[] shorts) {
                shorts[i] = (short) v;
            } else {
                ((int[]) row)[i] = v;
            }
        }

        // All ways of going at each step are tried.
        private int ways(Object row, int from, int n) {
            int fewest = NONE;
            for (int i = 0; i < n; i++) {
                int cell = itemOf(row, from + i);
                if (!cell(cell) || deaths.get(cell)) {
                    return NOT;
                }
            }
            for (int way = 0; way < 1 << (n - 1); way++) {
                boolean fits = true;
                int changes = 0;
                for (int i = 0; i + 1 < n && fits; i++) {
                    int seat = wheel.indexOf(itemOf(row, from + i));
                    fits = wheel.get(next(seat, (way >> i & 1) == 0 ? 1 : -1)) == itemOf(row, from + i + 1);
                    changes += i > 0 && (way >> i & 1) != (way >> (i - 1) & 1) ? 1 : 0;
                }
                if (fits && (fewest < 0 || changes < fewest)) {
                    fewest = changes;
                }
            }
            return fewest;
        }

        // The bytes but blanks by their places; a tongue's groups are held against a pattern as they grow.
        private int tongue() {
            StringBuilder seen = new StringBuilder();
            for (int i = 0; i < tape.length(); i++) {
                if (tape.charAt(i) == ' ') {
                    continue;
                }
                seen.append(tape.charAt(i));
                if (!canGrow(seen.toString())) {
                    return -20 - i;
                }
            }
            String[] groups = seen.toString().split(";", -1);
            if (groups[groups.length - 1].isEmpty()) {
                return -20 - tape.length();
            }
            for (int word = 0; word < groups.length; word++) {
                for (int letter = 0; letter < 8; letter++) {
                    follows[word][letter] = groups[word].indexOf('a' + letter) >= 0;
                }
            }
            return groups.length;
        }

        private static boolean canGrow(String text) {
            String group = "(-|(?=[a-h])a?b?c?d?e?f?g?h?)";
            return text.matches("(" + group + ";){0,7}" + group + "?");
        }

        private int book() {
            List<Integer> read = new ArrayList<>();
            for (int i = 0; i < tape.length(); i++) {
                char c = tape.charAt(i);
                if (c != ' ') {
                    if (c < 'a' || c > 'h' || read.size() == 24) {
                        return -20 - i;
                    }
                    read.add(c - 'a');
                }
            }
            words = read;
            writers = new ArrayList<>(java.util.Collections.nCopies(read.size(), NONE));
            return read.size();
        }

        private Model copy() {
            Model copy = new Model();
            copy.take(this);
            return copy;
        }

        private void take(Model other) {
            for (int i = 0; i < 8; i++) {
                follows[i] = other.follows[i].clone();
            }
            lines = new ArrayList<>(other.lines);
            kinds = new ArrayList<>(other.kinds);
            wheel = new ArrayList<>(other.wheel);
            weights = new ArrayList<>();
            for (int[] row : other.weights) {
                weights.add(row.clone());
            }
            deaths = new ArrayList<>(other.deaths);
            words = new ArrayList<>(other.words);
            writers = new ArrayList<>(other.writers);
            standing = other.standing;
            turns = other.turns;
            back = other.back;
            lot = other.lot;
        }

        private int line(List<Integer> row) {
            if (row == null) {
                return BAD;
            }
            if (lines.size() == 6) {
                return FULL;
            }
            lines.add(row);
            return lines.size() - 1;
        }

        private int newCell(int kind) {
            if (!in(kind, 0, 3)) {
                return BAD;
            }
            if (kinds.size() == 6) {
                return FULL;
            }
            wheel.add(kinds.size());
            kinds.add(kind);
            deaths.add(false);
            weights.add(new int[] {1, 1, 1, 1, 1, 1, 1, 1});
            return kinds.size() - 1;
        }

        private int follow(int word, int set) {
            if (!in(word, 0, 7) || !in(set, 0, 255)) {
                return BAD;
            }
            int was = 0;
            for (int other = 0; other < 8; other++) {
                was += follows[word][other] ? 1 << other : 0;
                follows[word][other] = (set >> other & 1) != 0;
            }
            return was;
        }

        private int count(int what) {
            boolean stuck = true;
            for (int word = 0; word < 8; word++) {
                stuck &= !may(words, word, 4);
            }
            int known = words.size() - java.util.Collections.frequency(writers, NONE);
            int[] counts = {kinds.size(), java.util.Collections.frequency(deaths, false), words.size(), lines.size(), known,
                stuck ? 1 : 0, someLive() ? wheel.get(seatNow()) : NONE, turns};
            return in(what, 0, 7) ? counts[what] : BAD;
        }

        private int odds(int cell, int word, int part) {
            if (!cell(cell) || !in(word, 0, 7) || !in(part, 0, 1)) {
                return BAD;
            }
            Set<Integer> come = come(cell, words);
            if (!come.contains(word)) {
                return NONE;
            }
            java.math.BigInteger above = java.math.BigInteger.valueOf(weights.get(cell)[word]);
            java.math.BigInteger below = java.math.BigInteger.valueOf(sum(cell, come));
            return (part == 0 ? above : below).divide(above.gcd(below)).intValue();
        }

        private int add(int word) {
            if (!in(word, 0, 7)) {
                return BAD;
            }
            if (!someLive()) {
                return NONE;
            }
            if (words.size() == 60) {
                return FULL;
            }
            int cell = wheel.get(seatNow());
            if (!come(cell, words).contains(word)) {
                return NOT;
            }
            words.add(word);
            writers.add(cell);
            goOn();
            return cell;
        }

        private int draw(int n) {
            if (!in(n, 1, 60) || !someLive()) {
                return in(n, 1, 60) ? NONE : BAD;
            }
            int before = words.size();
            for (int i = 0; i < n; i++) {
                drawTurn();
            }
            return words.size() - before;
        }

        private int undo(int n) {
            if (!in(n, 1, 60) || n > words.size()) {
                return in(n, 1, 60) ? NOT : BAD;
            }
            for (int i = 0; i < n; i++) {
                words.remove(words.size() - 1);
                writers.remove(writers.size() - 1);
            }
            return words.size();
        }

        private int swap(int one, int other) {
            if (!cell(one) || !cell(other) || one == other) {
                return BAD;
            }
            java.util.Collections.swap(wheel, wheel.indexOf(one), wheel.indexOf(other));
            return wheel.indexOf(one);
        }

        private int told(int cell, int what) {
            if (!cell(cell) || !in(what, 0, 10)) {
                return BAD;
            }
            int[] first = {kinds.get(cell), wheel.indexOf(cell), deaths.get(cell) ? 1 : 0};
            return what < 3 ? first[what] : weights.get(cell)[what - 3];
        }

        private int differ(int place, Object row, int from, int n) {
            int differing = 0;
            for (int i = 0; i < n; i++) {
                differing += place + i >= words.size() || itemOf(row, from + i) != words.get(place + i) ? 1 : 0;
            }
            return differing;
        }

        private int newSheet(int sheet, int lane, int n) {
            if (!in(sheet, 0, 3) || !in(lane, 0, 2) || n > 24) {
                return BAD;
            }
            if (n < 0) {
                return SIZE;
            }
            sheets[sheet] = lane == 0 ? new byte[n] : lane == 1 ? new short[n] : new int[n];
            return n;
        }

        private int onSheets(int method, int[] a) {
            int at = method == 30 ? 1 : method == 34 ? 2 : 0;
            boolean bad = !in(a[at], 0, 3) || method != 32 && !in(a[at + 1], 0, 2);
            bad |= method == 29 && !in(a[3], 1, 12) || method == 30 && (!in(a[4], 1, 24) || !in(a[0], 0, 60));
            bad |= method == 34 && (!in(a[1], 1, 24) || a[0] < 0 || (long) a[0] + a[1] > words.size());
            if (bad) {
                return BAD;
            }
            Object row = sheets[a[at]];
            if (method == 32) {
                sheets[a[at]] = null;
                return row == null ? NULL : java.lang.reflect.Array.getLength(row);
            }
            int n = method == 29 ? a[3] : method == 30 ? a[4] : method == 33 ? 1 : a[1];
            int from = method == 34 ? a[4] : method == 30 ? a[3] : a[2];
            int refusal = refusal(a[at], a[at + 1], from, n);
            if (refusal != 0) {
                return refusal;
            }
            if (method == 29) {
                return ways(row, from, n);
            }
            if (method == 30) {
                return differ(a[0], row, from, n);
            }
            for (int i = 0; i < n; i++) {
                put(row, from + i, method == 33 ? a[3] : words.get(a[0] + i));
            }
            return n;
        }

        int answer(int method, int[] a) {
            int was;
            switch (method) {
                case 0: return follow(a[0], a[1]);
                case 1: return line(row(a[0], a[1], 4));
                case 2: return newCell(a[0]);
                case 3:
                    if (!cell(a[0]) || !in(a[1], 0, 7) || !in(a[2], 0, 9)) {
                        return BAD;
                    }
                    was = weights.get(a[0])[a[1]];
                    weights.get(a[0])[a[1]] = a[2];
                    return was;
                case 4: return !cell(a[0]) ? BAD : deaths.set(a[0], a[1] != 0) ? 1 : 0;
                case 5: return swap(a[0], a[1]);
                case 6:
                    was = back;
                    back = a[0];
                    return was;
                case 7: return told(a[0], a[1]);
                case 9:
                    was = tongue();
                    tape = "";
                    return was;
                case 10:
                    was = book();
                    tape = "";
                    return was;
                case 11: return count(a[0]);
                case 12:
                    if (!in(a[0], 0, words.size() - 1) || !in(a[1], 0, 1)) {
                        return BAD;
                    }
                    return a[1] == 0 ? words.get(a[0]) : writers.get(a[0]);
                case 13: return cell(a[0]) ? bits(come(a[0], words)) : BAD;
                case 14: return odds(a[0], a[1], a[2]);
                case 15: return add(a[0]);
                case 16: return draw(a[0]);
                case 17:
                    was = a[0] < 0 ? BAD : (int) lot;
                    lot = a[0] < 0 ? lot : a[0];
                    return was;
                case 18: return undo(a[0]);
                default: return answerLater(method, a);
            }
        }

        private int answerLater(int method, int[] a) {
            switch (method) {
                case 19: return row(a[0], a[1], 3) == null ? BAD : fewest(row(a[0], a[1], 3));
                case 20: return fewest(null);
                case 21:
                    if (!in(a[0], 0, 7) || !in(a[1], 1, 5)) {
                        return BAD;
                    }
                    return someLive() ? soon(seatNow(), words, a[0], a[1]) : NONE;
                case 22:
                    if (!in(a[0], 0, words.size() - 1)) {
                        return BAD;
                    }
                    int writer = writers.set(a[0], NONE);
                    return writer < 0 ? NOT : writer;
                case 23: return cell(a[0]) && in(a[1], 0, 7) ? habit(a[0], a[1]) : BAD;
                case 24: return guess(a[0]);
                case 25: return in(a[0], 0, 1) ? prevented(a[0]) : BAD;
                case 26: return seated(row(a[0], a[1], 6), a[2]);
                case 27:
                    image = copy();
                    return 1;
                case 28:
                    if (image != null) {
                        take(image);
                    }
                    return image == null ? NONE : 1;
                case 31: return newSheet(a[0], a[1], a[2]);
                default: return onSheets(method, a);
            }
        }
    }
}
