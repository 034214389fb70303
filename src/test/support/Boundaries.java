import java.lang.reflect.InvocationTargetException;
import java.lang.reflect.Method;
import java.util.Map;
import java.util.TreeMap;
import java.util.function.Supplier;
import java.util.function.ToIntFunction;

// What the boundary tests share. Each method whose name begins with "promise" is a test of its own, named after the
// promise that it holds the class to, and runs whether others fail or not.
abstract class Boundaries {
    static final int BAD = -1, NOT = -2, FULL = -3, NONE = -4, NULL = -11, CAST = -12, INDEX = -13, SIZE = -14;
    static final int SANE = 0, MAD = 1, BLIND = 2, MUTE = 3;
    static final int BYTES = 0, SHORTS = 1, INTS = 2;
    static final int LEAST = Integer.MIN_VALUE, MOST = Integer.MAX_VALUE;

    static void runAll(Class<?> tests) {
        Map<String, Method> byName = new TreeMap<>();
        for (Method method : tests.getDeclaredMethods()) {
            if (method.getName().startsWith("promise")) {
                method.setAccessible(true);
                byName.put(method.getName(), method);
            }
        }
        int failed = 0;
        for (Method method : byName.values()) {
            failed += passes(method) ? 0 : 1;
        }
        System.out.println(byName.size() + " tests, " + failed + " failed");
        if (failed != 0 || byName.isEmpty()) {
            System.exit(1);
        }
    }

    private static boolean passes(Method method) {
        try {
            method.invoke(null);
            return true;
        } catch (InvocationTargetException thrown) {
            System.out.println(method.getName() + ": " + thrown.getCause());
        } catch (ReflectiveOperationException unfit) {
            System.out.println(method.getName() + ": " + unfit);
        }
        return false;
    }

    static void due(int got, int want) {
        if (got != want) {
            throw new AssertionError("answered " + got + ", due is " + want);
        }
    }

    static void due(String got, String want) {
        if (!got.equals(want)) {
            throw new AssertionError("\n  is     " + got + "\n  due is " + want);
        }
    }

    static SlipWheel wheel(int... kinds) {
        SlipWheel x = new SlipWheel();
        for (int kind : kinds) {
            x.cell(kind);
        }
        return x;
    }

    static int typed(SlipWheel x, String text) {
        int length = 0;
        for (int from = 0; from < text.length(); from += 8) {
            String part = text.substring(from, Math.min(text.length(), from + 8));
            long w = 0;
            for (char c : part.toCharArray()) {
                w = w << 8 | c;
            }
            length = x.type(w, part.length());
        }
        return length;
    }

    static int tongue(SlipWheel x, String text) {
        typed(x, text);
        return x.tongue();
    }

    static int book(SlipWheel x, String text) {
        typed(x, text);
        return x.book();
    }

    static String pages(SlipWheel x) {
        StringBuilder words = new StringBuilder();
        int length = x.count(2);
        for (int place = 0; place < length; place++) {
            words.append((char) ('a' + x.read(place, 0)));
        }
        return words.toString();
    }

    static int row(String words) {
        int row = 0;
        for (char c : words.toCharArray()) {
            row = row * 8 + c - 'a';
        }
        return row;
    }

    static int set(String words) {
        int set = 0;
        for (char c : words.toCharArray()) {
            set |= 1 << (c - 'a');
        }
        return set;
    }

    static void line(SlipWheel x, String words) {
        if (x.line(row(words), words.length()) < 0) {
            throw new AssertionError("no line " + words);
        }
    }

    static void add(SlipWheel x, String words) {
        for (char c : words.toCharArray()) {
            if (x.add(c - 'a') < 0) {
                throw new AssertionError("no word " + c + " behind " + pages(x));
            }
        }
    }

    static void onlyWords(SlipWheel x, int cell, String words) {
        for (int word = 0; word < 8; word++) {
            x.weight(cell, word, set(words) >> word & 1);
        }
    }

    static void sheet(SlipWheel x, int sheet, int lane, int... items) {
        x.sheet(sheet, lane, items.length);
        for (int i = 0; i < items.length; i++) {
            x.item(sheet, lane, i, items[i]);
        }
    }

    // Which of the words 0 to 7 an item is, or -1: the tape and the book of the object are lost by it.
    static int wordOfItem(SlipWheel x, int sheet, int lane, int i) {
        x.book();
        book(x, "abcdefgh");
        for (int place = 0; place < 8; place++) {
            if (x.differ(place, sheet, lane, i, 1) == 0) {
                return place;
            }
        }
        return -1;
    }

    static SlipWheel fullBook(int... kinds) {
        SlipWheel x = wheel(kinds);
        for (int i = 0; i < 60; i++) {
            x.add(0);
        }
        due(x.count(2), 60);
        return x;
    }

    // Something of all: a tape, an image of other state, a turn past a dead cell, a line that stands in the book.
    static SlipWheel usual() {
        SlipWheel x = wheel(SANE, MAD, BLIND, MUTE);
        x.image();
        tongue(x, "bcdefgh;abcdefgh;abdefgh");
        line(x, "hh");
        line(x, "bcde");
        x.weight(0, 7, 5);
        x.weight(1, 0, 0);
        x.swap(0, 2);
        x.seed(99);
        add(x, "abc");
        x.draw(1);
        add(x, "def");
        line(x, "cd");
        x.dead(2, true);
        x.turn(true);
        x.forget(1);
        typed(x, "ab ");
        sheet(x, 0, BYTES, 0, 1, 2, 3, 4);
        sheet(x, 1, SHORTS);
        sheet(x, 2, INTS, 7, 1, 7);
        return x;
    }

    // What calls can tell of an object, some 400 of them at the most; it is spent then.
    static String portrait(SlipWheel x) {
        StringBuilder seen = new StringBuilder();
        sheetsOf(x, seen);
        factsOf(x, seen);
        seen.append("; tape ").append(x.type('a', 1)).append(' ').append(x.book());
        seen.append("; image ").append(x.restore()).append(' ');
        factsOf(x, seen);
        return seen.toString();
    }

    private static void sheetsOf(SlipWheel x, StringBuilder seen) {
        for (int sheet = 0; sheet < 4; sheet++) {
            seen.append("; sheet ");
            for (int lane = 0; lane < 3; lane++) {
                int answer = 0;
                for (int i = 0; i < 24 && answer >= 0; i++) {
                    answer = x.differ(i, sheet, lane, i, 1);
                    seen.append(answer).append(' ');
                }
            }
        }
    }

    private static void factsOf(SlipWheel x, StringBuilder seen) {
        for (int what = 0; what < 8; what++) {
            seen.append(x.count(what)).append(' ');
        }
        for (int cell = 0; x.told(cell, 0) >= 0; cell++) {
            seen.append("; cell ").append(x.come(cell)).append(' ');
            for (int what = 0; what < 11; what++) {
                seen.append(x.told(cell, what)).append(' ');
            }
        }
        seen.append("; book ").append(pages(x)).append(' ');
        for (int place = 0; place < 9; place++) {
            seen.append(x.read(place, 1)).append(' ');
        }
        seen.append("; lines ").append(x.prevented(0)).append(' ').append(x.prevented(1));
        seen.append("; draw ").append(x.seed(5)).append("; way ").append(x.turn(false)).append("; tongue ");
        for (int word = 0; word < 8; word++) {
            seen.append(x.follow(word, 255)).append(' ');
        }
    }

    static void refused(Supplier<SlipWheel> made, int answer, ToIntFunction<SlipWheel> call) {
        SlipWheel x = made.get();
        due(call.applyAsInt(x), answer);
        due(portrait(x), portrait(made.get()));
    }

    static void refused(int answer, ToIntFunction<SlipWheel> call) {
        refused(Boundaries::usual, answer, call);
    }
}
