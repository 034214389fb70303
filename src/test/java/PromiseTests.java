// Each promise of the document by hand-made calls: ordinary ones, the edges that it names, and wrong ones.
public final class PromiseTests {
    private static final int BAD = -1, NOT = -2, FULL = -3, NONE = -4, NULL = -11, CAST = -12, INDEX = -13, SIZE = -14;
    private static final int LEAST = Integer.MIN_VALUE, MOST = Integer.MAX_VALUE;
    private static int wrong = 0;
    private static int asked = 0;

    private static void due(String what, int got, int want) {
        asked++;
        if (got != want) {
            wrong++;
            System.out.println(what + ": answered " + got + ", due is " + want);
        }
    }

    private static void typeText(SlipWheel x, String text) {
        for (int from = 0; from < text.length(); from += 8) {
            String part = text.substring(from, Math.min(text.length(), from + 8));
            long w = 0;
            for (char c : part.toCharArray()) {
                w = w << 8 | c;
            }
            x.type(w, part.length());
        }
    }

    private static int tongueOf(SlipWheel x, String text) {
        typeText(x, text);
        return x.tongue();
    }

    private static int bookOf(SlipWheel x, String text) {
        typeText(x, text);
        return x.book();
    }

    private static SlipWheel withCells(int... kinds) {
        SlipWheel x = new SlipWheel();
        for (int kind : kinds) {
            x.cell(kind);
        }
        return x;
    }

    private static void addAll(SlipWheel x, int... words) {
        for (int word : words) {
            x.add(word);
        }
    }

    private static int octal(String digits) {
        return Integer.parseInt(digits, 8);
    }

    private static void newObject() {
        SlipWheel x = new SlipWheel();
        int[] counts = {0, 0, 0, 0, 0, 0, NONE, 0};
        for (int what = 0; what < counts.length; what++) {
            due("1 count " + what, x.count(what), counts[what]);
        }
        for (int word = 0; word < 8; word++) {
            due("1 follow at first", x.follow(word, 255), 255);
        }
        due("1 draw at first", x.seed(5), 1);
        due("1 way at first", x.turn(false), 0);
        due("1 no image", x.restore(), NONE);
        for (int sheet = 0; sheet < 4; sheet++) {
            due("1 no sheet", x.drop(sheet), NULL);
        }
        due("1 empty tape", x.type('a', 1), 1);
        SlipWheel y = new SlipWheel();
        due("1 of its own", y.seed(9), 1);
    }

    private static void follow() {
        SlipWheel x = withCells(0);
        due("2 was", x.follow(7, 0), 255);
        due("2 was then", x.follow(7, 129), 0);
        due("2 kept", x.follow(7, 255), 129);
        x.follow(2, 0b1010);
        due("2 other words stay", x.follow(1, 255), 255);
        bookOf(x, "c");
        due("2 come", x.come(0), 0b1010);
        due("2 low word", x.follow(-1, 0), BAD);
        due("2 high word", x.follow(8, 0), BAD);
        due("2 low set", x.follow(2, -1), BAD);
        due("2 high set", x.follow(2, 256), BAD);
        due("2 wild", x.follow(LEAST, MOST), BAD);
        due("2 refused changes nothing", x.follow(2, 0), 0b1010);
    }

    private static void line() {
        SlipWheel x = withCells(0);
        due("3 first", x.line(7, 1), 0);
        due("3 second", x.line(octal("01"), 2), 1);
        due("3 third", x.line(octal("234"), 3), 2);
        due("3 fourth", x.line(octal("7777"), 4), 3);
        int[][] bad = {{0, 0}, {0, -1}, {0, 5}, {8, 1}, {64, 2}, {512, 3}, {4096, 4}, {-1, 1}, {-1, 4}, {LEAST, LEAST}, {MOST, MOST}};
        for (int[] row : bad) {
            due("3 bad " + row[0] + ", " + row[1], x.line(row[0], row[1]), BAD);
        }
        due("3 count", x.count(3), 4);
        due("3 one word never comes", x.come(0), 127);
        bookOf(x, "a");
        due("3 two", x.come(0), 127 & ~2);
        bookOf(x, "d");
        due("3 three not yet", x.come(0), 127);
        bookOf(x, "cd");
        due("3 three", x.come(0), 127 & ~16);
        due("3 like one", x.line(7, 1), 4);
        due("3 sixth", x.line(octal("0000"), 4), 5);
        due("3 full", x.line(6, 1), FULL);
        due("3 bad ahead of full", x.line(8, 1), BAD);
        bookOf(x, "aa");
        due("3 four not yet", x.come(0), 127 & ~2);
        bookOf(x, "aaa");
        due("3 four", x.come(0), 127 & ~3);
        bookOf(x, "baaa");
        due("3 the end alone counts", x.come(0), 127 & ~3);
        due("3 count at full", x.count(3), 6);
    }

    private static void cell() {
        SlipWheel x = new SlipWheel();
        due("4 bad", x.cell(-1), BAD);
        due("4 bad", x.cell(4), BAD);
        due("4 bad", x.cell(MOST), BAD);
        for (int i = 0; i < 6; i++) {
            due("4 number", x.cell(i % 4), i);
            due("4 kind", x.told(i, 0), i % 4);
            due("4 seat", x.told(i, 1), i);
            due("4 not dead", x.told(i, 2), 0);
        }
        due("4 full", x.cell(0), FULL);
        due("4 bad ahead of full", x.cell(4), BAD);
        due("4 count", x.count(0), 6);
    }

    private static void weight() {
        SlipWheel x = withCells(0, 0);
        due("5 at first", x.weight(1, 7, 9), 1);
        due("5 was", x.weight(1, 7, 0), 9);
        due("5 none can come", x.come(1), 127);
        due("5 other cell", x.come(0), 255);
        due("5 cell", x.weight(2, 0, 1), BAD);
        due("5 cell", x.weight(-1, 0, 1), BAD);
        due("5 word", x.weight(0, 8, 1), BAD);
        due("5 word", x.weight(0, -1, 1), BAD);
        due("5 high", x.weight(1, 7, 10), BAD);
        due("5 low", x.weight(1, 7, -1), BAD);
        due("5 refused changes nothing", x.weight(1, 7, 3), 0);
        due("5 told", x.told(1, 10), 3);
    }

    private static void dead() {
        SlipWheel x = withCells(0, 0, 0);
        due("6 not yet", x.dead(1, true), 0);
        due("6 was", x.dead(1, true), 1);
        due("6 told", x.told(1, 2), 1);
        due("6 count", x.count(1), 2);
        due("6 it can still be asked", x.come(1), 255);
        due("6 add", x.add(0), 0);
        due("6 past the dead", x.add(0), 2);
        due("6 round", x.add(0), 0);
        due("6 stands past the dead", x.count(6), 2);
        x.dead(2, true);
        due("6 the next one's", x.count(6), 0);
        x.dead(2, false);
        due("6 back", x.count(6), 2);
        x.dead(0, true);
        due("6 alone", x.add(1), 2);
        due("6 alone again", x.add(1), 2);
        x.dead(2, true);
        due("6 all", x.count(6), NONE);
        due("6 living", x.count(1), 0);
        due("6 bad", x.dead(3, true), BAD);
        due("6 bad", x.dead(-1, false), BAD);
    }

    private static void swap() {
        SlipWheel x = withCells(0, 0, 0);
        due("7 seat", x.swap(0, 2), 2);
        due("7 told", x.told(0, 1), 2);
        due("7 told", x.told(2, 1), 0);
        due("7 the wheel stands at the seat", x.count(6), 2);
        due("7 add", x.add(0), 2);
        due("7 add", x.add(0), 1);
        due("7 add", x.add(0), 0);
        due("7 again", x.swap(1, 2), 0);
        due("7 told", x.told(2, 1), 1);
        due("7 one", x.swap(1, 1), BAD);
        due("7 bad", x.swap(0, 3), BAD);
        due("7 bad", x.swap(3, 0), BAD);
        due("7 bad", x.swap(-1, 0), BAD);
        due("7 bad", x.swap(0, -1), BAD);
        due("7 a cell behind all", x.cell(0), 3);
        due("7 its seat", x.told(3, 1), 3);
    }

    private static void turn() {
        SlipWheel x = withCells(0, 0, 0);
        due("8 was", x.turn(true), 0);
        due("8 was", x.turn(true), 1);
        due("8 starts where it stands", x.add(0), 0);
        due("8 ahead", x.add(0), 2);
        due("8 ahead", x.add(0), 1);
        due("8 was", x.turn(false), 1);
        due("8 stands", x.add(0), 0);
        due("8 forwards", x.count(6), 1);
        x.dead(1, true);
        due("8 behind the dead", x.count(6), 2);
        x.turn(true);
        due("8 ahead of the dead", x.count(6), 0);
    }

    private static void told() {
        SlipWheel x = withCells(3, 2);
        x.swap(0, 1);
        x.dead(1, true);
        x.weight(1, 0, 4);
        x.weight(1, 7, 0);
        int[] want = {2, 0, 1, 4, 1, 1, 1, 1, 1, 1, 0};
        for (int what = 0; what < want.length; what++) {
            due("9 what " + what, x.told(1, what), want[what]);
        }
        due("9 bad", x.told(1, 11), BAD);
        due("9 bad", x.told(1, -1), BAD);
        due("9 bad", x.told(2, 0), BAD);
        due("9 bad", x.told(-1, 0), BAD);
    }

    private static void type() {
        SlipWheel x = withCells(0);
        due("10 low byte", x.type(0x7F61L, 1), 1);
        due("10 highest first", x.type('b' << 8 | 'c', 2), 3);
        due("10 n", x.type('a', 0), BAD);
        due("10 n", x.type('a', 9), BAD);
        due("10 n", x.type(0x6161616161616161L, 9), BAD);
        due("10 n", x.type('a', LEAST), BAD);
        due("10 byte 31", x.type(31, 1), BAD);
        due("10 byte 127", x.type(127, 1), BAD);
        due("10 byte 128", x.type(128, 1), BAD);
        due("10 byte 255", x.type(-1L, 8), BAD);
        due("10 a bad high byte", x.type('a', 2), BAD);
        due("10 32 and 126", x.type(32 << 8 | 126, 2), 5);
        due("10 the tape", x.book(), -24);
        due("10 empty then", x.type('a', 1), 1);
        due("10 refused are not on it", x.book(), 1);
        for (int i = 1; i <= 9; i++) {
            due("10 long", x.type(0x6162636465666768L, 8), 8 * i);
        }
        due("10 to 79", x.type(0x61626364656667L, 7), 79);
        due("10 full", x.type(0x6161L, 2), FULL);
        due("10 bad ahead of full", x.type(0x6107L, 2), BAD);
        due("10 the eightieth", x.type('a', 1), 80);
        due("10 full", x.type('a', 1), FULL);
        due("10 order of bytes", x.book(), -44);
        typeText(x, "hgfedcba");
        due("10 order of bytes", x.book(), 8);
        due("10 first byte is the highest", x.read(0, 0), 7);
    }

    private static void tongue() {
        SlipWheel x = withCells(0);
        due("11 one", tongueOf(x, "ah"), 1);
        due("11 its set", x.follow(0, 255), 129);
        due("11 others stay", x.follow(1, 3), 255);
        due("11 none", tongueOf(x, "-;-"), 2);
        due("11 none for 0", x.follow(0, 255), 0);
        due("11 none for 1", x.follow(1, 255), 0);
        due("11 eight", tongueOf(x, "a;b;c;d;e;f;g;abcdefgh"), 8);
        due("11 second", x.follow(1, 255), 2);
        due("11 eighth", x.follow(7, 3), 255);
        due("11 blanks", tongueOf(x, "  a  b ; - "), 2);
        due("11 blanks 0", x.follow(0, 255), 3);
        due("11 blanks 1", x.follow(1, 255), 0);
        String[] faults = {"", "   ", ";", "i", "A", "aa", "ba", "a-", "--", "-a", "a;", "a;;b", "a;b;", "a b,", "a;b;c;d;e;f;g;h;", " h g", "- -", "a; "};
        int[] places = {0, 3, 0, 0, 0, 1, 1, 1, 1, 1, 2, 2, 4, 3, 15, 3, 2, 3};
        for (int i = 0; i < faults.length; i++) {
            due("11 fault of '" + faults[i] + "'", tongueOf(x, faults[i]), -20 - places[i]);
            due("11 the tape is empty then", x.type('a', 1), 1);
            x.book();
        }
        x.follow(0, 77);
        x.follow(1, 78);
        due("11 a late fault", tongueOf(x, "a;b;x"), -24);
        due("11 the tongue stays", x.follow(0, 255), 77);
        due("11 the tongue stays", x.follow(1, 255), 78);
        due("11 all blanks of a full tape", tongueOf(x, " ".repeat(80)), -100);
    }

    private static void book() {
        SlipWheel x = withCells(0, 0);
        addAll(x, 3, 4);
        due("12 words", bookOf(x, "ab h"), 3);
        due("12 in place of it", x.count(2), 3);
        due("12 word", x.read(0, 0), 0);
        due("12 word", x.read(2, 0), 7);
        due("12 writers forgotten", x.read(0, 1), NONE);
        due("12 known", x.count(4), 0);
        due("12 the turn stays", x.count(6), 0);
        due("12 turns stay", x.count(7), 2);
        due("12 24", bookOf(x, "abcdefgh abcdefgh abcdefgh"), 24);
        due("12 25", bookOf(x, "abcdefghabcdefghabcdefgh a"), -45);
        due("12 the book stays", x.count(2), 24);
        due("12 the tape is empty then", bookOf(x, "b"), 1);
        due("12 letter", bookOf(x, "ai"), -21);
        due("12 letter", bookOf(x, "A"), -20);
        due("12 letter", bookOf(x, "a;b"), -21);
        due("12 the book stays", x.read(0, 0), 1);
        due("12 empty", x.book(), 0);
        due("12 empty then", x.count(2), 0);
        bookOf(x, "a");
        due("12 blanks alone", bookOf(x, "  "), 0);
        due("12 empty then", x.count(2), 0);
        x.follow(0, 0);
        due("12 what may not come can stand", bookOf(x, "aaa"), 3);
    }

    private static void count() {
        SlipWheel x = withCells(0, 3, 0);
        x.dead(2, true);
        x.line(5, 1);
        x.add(2);
        x.draw(1);
        x.add(3);
        x.forget(0);
        int[] want = {3, 2, 2, 1, 1, 0, 1, 3};
        for (int what = 0; what < want.length; what++) {
            due("13 what " + what, x.count(what), want[what]);
        }
        x.follow(3, 32);
        due("13 stuck by a line", x.count(5), 1);
        x.follow(3, 33);
        due("13 not stuck", x.count(5), 0);
        due("13 bad", x.count(8), BAD);
        due("13 bad", x.count(-1), BAD);
        due("13 bad", x.count(LEAST), BAD);
        SlipWheel mad = withCells(1);
        mad.follow(0, 0);
        mad.add(0);
        due("13 stuck, whatever a mad one takes", mad.count(5), 1);
        x.undo(2);
        due("13 undone words", x.count(2), 0);
        due("13 undone ones are not known", x.count(4), 0);
        due("13 turns stay", x.count(7), 3);
    }

    private static void read() {
        SlipWheel x = withCells(0, 0);
        addAll(x, 6, 5);
        due("14 word", x.read(0, 0), 6);
        due("14 word", x.read(1, 0), 5);
        due("14 who", x.read(1, 1), 1);
        x.forget(1);
        due("14 forgotten", x.read(1, 1), NONE);
        due("14 the word stays", x.read(1, 0), 5);
        due("14 place", x.read(2, 0), BAD);
        due("14 place", x.read(-1, 1), BAD);
        due("14 what", x.read(0, 2), BAD);
        due("14 what", x.read(0, -1), BAD);
    }

    private static void come() {
        SlipWheel x = withCells(0, 1, 2, 3);
        x.line(octal("7"), 1);
        x.line(octal("06"), 2);
        x.line(octal("005"), 3);
        x.line(octal("0004"), 4);
        x.follow(0, 0b11111110);
        x.weight(0, 1, 0);
        x.weight(1, 2, 0);
        x.weight(2, 3, 0);
        due("15 empty, sane", x.come(0), 0b01111101);
        due("15 empty, mad", x.come(1), 0b11111011);
        due("15 empty, blind", x.come(2), 0b01110111);
        due("15 empty, mute", x.come(3), 0);
        bookOf(x, "a");
        due("15 one, sane", x.come(0), 0b00111100);
        due("15 one, mad", x.come(1), 0b11111011);
        due("15 one, blind", x.come(2), 0b00110110);
        bookOf(x, "aa");
        due("15 two, sane", x.come(0), 0b00011100);
        due("15 two, blind", x.come(2), 0b00110110);
        bookOf(x, "haaa");
        due("15 three, sane", x.come(0), 0b00001100);
        due("15 three, mad", x.come(1), 0b11111011);
        due("15 three, blind", x.come(2), 0b00110110);
        due("15 bad", x.come(4), BAD);
        due("15 bad", x.come(-1), BAD);
        due("15 bad", x.come(MOST), BAD);
    }

    private static void odds() {
        SlipWheel x = withCells(0, 3);
        for (int word = 0; word < 8; word++) {
            x.weight(0, word, word == 1 ? 6 : word == 2 ? 3 : word == 3 ? 9 : 0);
        }
        due("16 above", x.odds(0, 1, 0), 1);
        due("16 below", x.odds(0, 1, 1), 3);
        due("16 above", x.odds(0, 3, 0), 1);
        due("16 below", x.odds(0, 3, 1), 2);
        due("16 no weight", x.odds(0, 0, 0), NONE);
        x.weight(0, 4, 7);
        due("16 nothing in common", x.odds(0, 4, 0), 7);
        due("16 nothing in common", x.odds(0, 4, 1), 25);
        x.weight(0, 5, 3);
        x.weight(0, 6, 2);
        due("16 by two", x.odds(0, 6, 0), 1);
        due("16 by two", x.odds(0, 6, 1), 15);
        for (int word = 4; word < 7; word++) {
            x.weight(0, word, 0);
        }
        due("16 mute", x.odds(1, 1, 0), NONE);
        x.line(3, 1);
        due("16 of those that can come", x.odds(0, 1, 0), 2);
        due("16 of those that can come", x.odds(0, 1, 1), 3);
        due("16 it can't", x.odds(0, 3, 1), NONE);
        x.line(2, 1);
        due("16 sure", x.odds(0, 1, 0), 1);
        due("16 sure", x.odds(0, 1, 1), 1);
        due("16 cell", x.odds(2, 1, 0), BAD);
        due("16 cell", x.odds(-1, 1, 0), BAD);
        due("16 word", x.odds(0, 8, 0), BAD);
        due("16 word", x.odds(0, -1, 0), BAD);
        due("16 part", x.odds(0, 1, 2), BAD);
        due("16 part", x.odds(0, 0, -1), BAD);
    }

    private static void add() {
        SlipWheel x = new SlipWheel();
        due("17 no cell", x.add(0), NONE);
        due("17 bad ahead of none", x.add(8), BAD);
        x.cell(0);
        x.cell(3);
        x.cell(1);
        x.follow(4, 0);
        due("17 who", x.add(4), 0);
        due("17 mute", x.add(1), NOT);
        due("17 refused changes nothing", x.count(7), 1);
        x.dead(1, true);
        due("17 mad", x.add(1), 2);
        x.line(octal("11"), 2);
        due("17 a line", x.add(1), NOT);
        due("17 bad", x.add(-1), BAD);
        due("17 word", x.read(1, 0), 1);
        x.dead(0, true);
        for (int i = 2; i < 60; i++) {
            due("17 mad alone", x.add(1), 2);
        }
        due("17 full", x.add(1), FULL);
        x.weight(2, 1, 0);
        due("17 full ahead of not", x.add(1), FULL);
        due("17 sixty", x.count(2), 60);
        x.dead(2, true);
        due("17 none ahead of full", x.add(1), NONE);
        due("17 bad ahead of none", x.add(9), BAD);
    }

    private static void draw() {
        SlipWheel x = new SlipWheel();
        due("18 no cell", x.draw(1), NONE);
        due("18 bad ahead of none", x.draw(0), BAD);
        x.cell(0);
        due("18 bad", x.draw(61), BAD);
        due("18 bad", x.draw(-1), BAD);
        // 1103527590 by 65536 is 16838, of eight likes the remainder is 6.
        due("18 one", x.draw(1), 1);
        due("18 word", x.read(0, 0), 6);
        due("18 who", x.read(0, 1), 0);
        due("18 the draw then", x.seed(1), 1103527590);
        x.follow(6, 0b101001);
        x.weight(0, 3, 2);
        // By 4 the remainder is 2: behind one of word 0, the second of word 3.
        due("18 weights", x.draw(1), 1);
        due("18 word", x.read(1, 0), 3);
        x.follow(3, 0);
        long before = x.seed(1);
        due("18 none can come", x.draw(3), 0);
        due("18 the draw stays by none", x.seed((int) before), 1);
        due("18 turns go on", x.count(7), 5);
        SlipWheel sure = withCells(0);
        sure.line(0, 1);
        for (int word = 1; word < 7; word++) {
            sure.weight(0, word, 0);
        }
        sure.draw(1);
        due("18 a sure one is drawn as well", sure.seed(1), 1103527590);
        due("18 sure", sure.read(0, 0), 7);
        SlipWheel y = withCells(0, 3);
        due("18 a mute one adds none", y.draw(60), 30);
        y.draw(58);
        due("18 up to sixty", y.draw(5), 1);
        int lot = y.seed(0);
        y.seed(lot);
        due("18 on a full book none", y.draw(2), 0);
        due("18 the draw stays on it", y.seed(1), lot);
        due("18 turns go on on it", y.count(7), 125);
        due("18 whose turn", y.count(6), 1);
        y.dead(0, true);
        y.dead(1, true);
        due("18 all dead", y.draw(1), NONE);
    }

    private static void seed() {
        SlipWheel x = withCells(0);
        due("19 at first", x.seed(0), 1);
        due("19 was", x.seed(MOST), 0);
        due("19 bad", x.seed(-1), BAD);
        due("19 bad", x.seed(LEAST), BAD);
        due("19 stays", x.seed(7), MOST);
        x.seed(0);
        // 12345 by 65536 is 0: the first word.
        x.draw(1);
        due("19 drawn by it", x.read(0, 0), 0);
        due("19 the draw", x.seed(MOST), 12345);
        x.draw(1);
        // The lowest 31 bits of -1103515245 + 12345.
        due("19 stays within 31 bits", x.seed(1), (int) (-1103502900L & 0x7fffffffL));
    }

    private static void undo() {
        SlipWheel x = withCells(0, 0);
        due("20 not so many", x.undo(1), NOT);
        addAll(x, 1, 2, 3);
        due("20 left", x.undo(2), 1);
        due("20 count", x.count(2), 1);
        due("20 the turn stays", x.count(6), 1);
        due("20 turns stay", x.count(7), 3);
        due("20 not so many", x.undo(2), NOT);
        due("20 bad", x.undo(0), BAD);
        due("20 bad", x.undo(-1), BAD);
        due("20 bad", x.undo(61), BAD);
        due("20 not", x.undo(60), NOT);
        due("20 what stays", x.read(0, 0), 1);
        due("20 all", x.undo(1), 0);
        due("20 habit is undone", x.habit(0, 1), 0);
        x.draw(60);
        due("20 sixty", x.undo(60), 0);
    }

    private static void reach() {
        SlipWheel x = new SlipWheel();
        due("21 no cell", x.reach(0, 1), NONE);
        due("21 bad ahead of none", x.reach(8, 1), BAD);
        bookOf(x, "a");
        due("21 no cell, though it stands there", x.reach(0, 1), NONE);
        x.cell(0);
        due("21 it stands there", x.reach(0, 1), 0);
        due("21 one more", x.reach(octal("00"), 2), 1);
        due("21 on", x.reach(octal("01"), 2), 1);
        due("21 three", x.reach(octal("123"), 3), 3);
        due("21 bad", x.reach(0, 0), BAD);
        due("21 bad", x.reach(0, 4), BAD);
        due("21 bad", x.reach(512, 3), BAD);
        due("21 bad", x.reach(-1, 3), BAD);
        tongueOf(x, "b;c;d;e;f;g;h;a");
        due("21 round the ring", x.reach(7, 1), 7);
        due("21 round the ring", x.reach(octal("70"), 2), 8);
        due("21 never", x.reach(octal("02"), 2), NONE);
        x.cell(3);
        x.cell(3);
        due("21 by turns of mute ones", x.reach(7, 1), 19);
        x.cell(3);
        x.cell(3);
        due("21 in 31", x.reach(7, 1), NONE);
        due("21 in 26", x.reach(6, 1), 26);
        x.dead(3, true);
        x.swap(0, 1);
        due("21 in 26", x.reach(7, 1), 26);
        x.turn(true);
        due("21 backwards round to its seat", x.reach(1, 1), 4);
        SlipWheel y = withCells(0, 3, 3);
        tongueOf(y, "b;c;d;e;f;g;h;a");
        bookOf(y, "a");
        due("21 a word waits for its cell", y.reach(octal("12"), 2), 4);
        y.line(2, 1);
        due("21 none behind", y.reach(3, 1), NONE);
        y.cell(2);
        due("21 a blind one knows lines of one", y.reach(3, 1), NONE);
        y.cell(1);
        due("21 a mad one", y.reach(3, 1), 5);
        SlipWheel full = withCells(0);
        full.draw(60);
        int last = full.read(59, 0);
        due("21 never full", full.reach(last == 0 ? 1 : 0, 1), 1);
        SlipWheel far = withCells(0, 3, 3, 3, 3, 3);
        bookOf(far, "a");
        tongueOf(far, "b;c;d;e;f;g;h;a");
        due("21 in 25", far.reach(5, 1), 25);
        far.turn(false);
        far.draw(1);
        due("21 in 30", far.reach(6, 1), 30);
        due("21 in 36", far.reach(7, 1), NONE);
        SlipWheel wide = withCells(0);
        tongueOf(wide, "ab;abc;abcd;abcde;abcdef;abcdefg;abcdefgh;abcdefgh");
        bookOf(wide, "a");
        due("21 among many books", wide.reach(octal("777"), 3), 9);
    }

    private static void end() {
        SlipWheel x = new SlipWheel();
        due("22 no cell", x.end(), NONE);
        x.cell(3);
        due("22 mute ones alone", x.end(), 0);
        x.cell(0);
        due("22 never", x.end(), NONE);
        x.dead(1, true);
        due("22 dead ones don't count", x.end(), 0);
        x.dead(0, true);
        due("22 all dead", x.end(), NONE);
        x.dead(1, false);
        x.follow(3, 0);
        due("22 one turn", x.end(), 1);
        x.cell(1);
        due("22 a mad one can always", x.end(), NONE);
        x.dead(2, true);
        tongueOf(x, "b;c;d;e;f;g;h;-");
        bookOf(x, "a");
        due("22 down the row", x.end(), 7);
        x.dead(0, false);
        due("22 with turns of a mute one", x.end(), 14);
        bookOf(x, "h");
        due("22 at its end", x.end(), 0);
        SlipWheel y = withCells(0, 2);
        y.line(octal("000"), 3);
        y.follow(0, 1);
        bookOf(y, "aa");
        due("22 a blind one can still", y.end(), NONE);
        y.dead(1, true);
        due("22 by a line", y.end(), 0);
        SlipWheel far = withCells(0, 3, 3, 3, 3, 3);
        tongueOf(far, "b;c;d;e;f;g;-");
        bookOf(far, "a");
        due("22 in 31", far.end(), NONE);
        far.dead(5, true);
        due("22 in 26", far.end(), 26);
    }

    private static void soon() {
        SlipWheel x = new SlipWheel();
        due("23 no cell", x.soon(0, 1), NONE);
        due("23 bad ahead of none", x.soon(0, 6), BAD);
        x.cell(0);
        due("23 one in eight", x.soon(0, 1), 125);
        // (1000 + 7 * 125) / 8 is 234.375, and one (1000 + 7 * 234) / 8 is 329.75.
        due("23 cut", x.soon(0, 2), 234);
        due("23 cut each time", x.soon(0, 3), 329);
        x.weight(0, 0, 9);
        due("23 by weight", x.soon(0, 1), 562);
        due("23 by weight", x.soon(1, 1), 62);
        for (int word = 1; word < 8; word++) {
            x.weight(0, word, 0);
        }
        due("23 sure", x.soon(0, 1), 1000);
        due("23 never", x.soon(1, 5), 0);
        due("23 bad", x.soon(8, 1), BAD);
        due("23 bad", x.soon(-1, 1), BAD);
        due("23 bad", x.soon(0, 0), BAD);
        x.cell(3);
        x.add(0);
        due("23 a mute one waits", x.soon(0, 1), 0);
        due("23 then the next one", x.soon(0, 2), 1000);
        SlipWheel y = withCells(0, 0);
        tongueOf(y, "bc;-;d;-");
        bookOf(y, "a");
        for (int word = 4; word < 8; word++) {
            y.weight(0, word, 0);
        }
        due("23 by what is behind", y.soon(3, 1), 0);
        due("23 by what is behind", y.soon(3, 2), 500);
        y.weight(0, 1, 2);
        due("23 by what is behind", y.soon(3, 5), 333);
        SlipWheel full = withCells(0);
        full.draw(60);
        due("23 never full", full.soon(0, 2), 234);
    }

    private static void forget() {
        SlipWheel x = withCells(0, 0);
        addAll(x, 1, 2);
        due("24 who", x.forget(1), 1);
        due("24 it is", x.forget(1), NOT);
        due("24 known", x.count(4), 1);
        due("24 bad", x.forget(2), BAD);
        due("24 bad", x.forget(-1), BAD);
        bookOf(x, "a");
        due("24 of a text", x.forget(0), NOT);
        due("24 bad", x.forget(1), BAD);
    }

    private static void habit() {
        SlipWheel x = withCells(0, 0);
        addAll(x, 1, 1, 1, 2, 3, 1);
        due("25 twice", x.habit(0, 1), 2);
        due("25 others", x.habit(1, 1), 2);
        due("25 once", x.habit(1, 2), 1);
        due("25 none", x.habit(1, 3), 0);
        x.forget(0);
        due("25 forgotten ones are not", x.habit(0, 1), 1);
        due("25 bad", x.habit(2, 0), BAD);
        due("25 bad", x.habit(-4, 0), BAD);
        due("25 bad", x.habit(0, 8), BAD);
        due("25 bad", x.habit(0, -1), BAD);
        bookOf(x, "bbb");
        due("25 of the book", x.habit(0, 1), 0);
    }

    private static void guess() {
        SlipWheel x = new SlipWheel();
        due("26 bad", x.guess(0), BAD);
        bookOf(x, "ab");
        due("26 no cell", x.guess(0), NONE);
        x.cell(3);
        due("26 all mute", x.guess(1), NONE);
        x.cell(0);
        due("26 the one", x.guess(1), 1);
        x.cell(0);
        x.draw(1);
        x.add(0);
        due("26 it is known", x.guess(2), NOT);
        // Of cell 1: 32 by 9 is 3; of cell 2: 16 by 8 is 2.
        due("26 by its habit", x.guess(0), 1);
        // Of cell 1: 16 by 9 is 1; of cell 2: 2.
        due("26 by other habits", x.guess(1), 2);
        due("26 bad", x.guess(3), BAD);
        due("26 bad", x.guess(-1), BAD);
        x.dead(2, true);
        due("26 dead ones too", x.guess(1), 2);
        SlipWheel y = withCells(0, 0);
        bookOf(y, "b");
        for (int i = 0; i < 8; i++) {
            y.add(0);
        }
        // Alike: 16 by 12 is 1 of both.
        due("26 of like ones the first", y.guess(0), 0);
        y.forget(1);
        y.forget(3);
        y.forget(5);
        // Of cell 0: 16 by 9 is 1; of cell 1: 16 by 12 is 1.
        due("26 alike when cut", y.guess(0), 0);
        y.forget(7);
        due("26 of none", y.guess(0), 0);
        // Of cell 0: 16 by 8; of cell 1: 80 by 12 is 6.
        due("26 most", y.guess(1), 1);
        due("26 the first cell's is known", withWriters(0).guess(0), NOT);
    }

    private static SlipWheel withWriters(int... words) {
        SlipWheel x = withCells(0, 0);
        addAll(x, words);
        return x;
    }

    // Of the told word and of others, cell 0 wrote as many as told, and cell 1.
    private static int guessed(int told0, int others0, int told1, int others1) {
        SlipWheel x = withCells(0, 0);
        bookOf(x, "h");
        int[] words = {7, 0, 7, 0};
        int[] times = {told0, others0, told1, others1};
        for (int i = 0; i < 4; i++) {
            x.dead(0, i >= 2);
            x.dead(1, i < 2);
            for (int time = 0; time < times[i]; time++) {
                x.add(words[i]);
            }
        }
        return x.guess(0);
    }

    private static void guessByNumbers() {
        // Of cell 0: 16 by 9 is 1; of cell 1: 16 by 8 is 2.
        due("26 by its numbers", guessed(0, 1, 0, 0), 1);
        // Of cell 0: 16 by 8 is 2; of cell 1: 32 by 10 is 3.
        due("26 by its numbers", guessed(0, 0, 1, 1), 1);
        // Of cell 0: 16 by 8 is 2; of cell 1: 32 by 11 is 2.
        due("26 by its numbers", guessed(0, 0, 1, 2), 0);
    }

    private static void prevented() {
        SlipWheel x = withCells(0, 1, 0);
        due("27 none", x.prevented(0), NONE);
        due("27 none", x.prevented(1), NONE);
        due("27 bad", x.prevented(2), BAD);
        due("27 bad", x.prevented(-1), BAD);
        x.line(octal("456"), 3);
        addAll(x, 1, 4, 5);
        due("27 not yet", x.prevented(0), NONE);
        x.dead(0, true);
        due("27 mad", x.add(6), 1);
        due("27 place", x.prevented(0), 3);
        due("27 who", x.prevented(1), 0b110);
        x.forget(1);
        due("27 one word of it is enough", x.prevented(1), 0b110);
        x.forget(2);
        due("27 forgotten", x.prevented(1), 0b010);
        for (int word = 0; word < 8; word++) {
            if (word != 6) {
                x.weight(1, word, 0);
            }
        }
        due("27 no other could come", x.prevented(1), 0);
        x.weight(1, 0, 1);
        due("27 by all as it is now", x.prevented(1), 0b010);
        SlipWheel y = withCells(0, 0, 0, 0);
        addAll(y, 3, 1, 2, 1, 2);
        y.line(octal("2121"), 4);
        y.line(octal("1212"), 4);
        y.line(octal("12"), 2);
        y.line(octal("2"), 1);
        due("27 the first place", y.prevented(0), 2);
        due("27 of more the first line", y.prevented(1), 0b110);
        y.follow(3, 0b10);
        due("27 behind the words ahead", y.prevented(1), 0b100);
        y.follow(1, 0b100);
        due("27 the line's word need not be left", y.prevented(1), 0);
        y.follow(1, 0b1100);
        due("27 another one", y.prevented(1), 0b100);
        y.dead(2, true);
        due("27 a dead one could have", y.prevented(1), 0b100);
        y.undo(3);
        due("27 undone", y.prevented(0), NONE);
        SlipWheel z = withCells(0);
        bookOf(z, "hhhh");
        z.line(octal("7777"), 4);
        due("27 of a text", z.prevented(0), 3);
        due("27 nobody is known", z.prevented(1), 0);
        z.line(octal("0"), 1);
        due("27 no word 0 there", z.prevented(0), 3);
        bookOf(z, "aaa");
        z.line(octal("0000"), 4);
        due("27 one word", z.prevented(0), 0);
        SlipWheel shorter = withCells(0);
        bookOf(shorter, "b");
        shorter.line(octal("01"), 2);
        shorter.line(octal("001"), 3);
        due("27 a line does not begin ahead of the book", shorter.prevented(0), NONE);
        SlipWheel first = withCells(0, 0);
        addAll(first, 5);
        first.line(5, 1);
        due("27 the first cell", first.prevented(1), 1);
    }

    private static void seated() {
        SlipWheel x = withCells(0, 0, 0);
        due("28 all orders", x.seated(octal("012"), 3, -1), 6);
        due("28 first", x.seated(octal("012"), 3, 0), 0);
        due("28 first", x.seated(octal("012"), 3, 2), 2);
        for (int word = 0; word < 8; word++) {
            x.weight(2, word, word == 5 ? 1 : 0);
            x.weight(0, word, word == 6 ? 1 : 0);
        }
        due("28 one order", x.seated(octal("576"), 3, -1), 1);
        due("28 its first", x.seated(octal("576"), 3, 0), 2);
        due("28 its second", x.seated(octal("576"), 3, 1), 1);
        due("28 its third", x.seated(octal("576"), 3, 2), 0);
        due("28 two orders", x.seated(octal("5"), 1, -1), 4);
        due("28 round", x.seated(octal("576576"), 6, -1), 1);
        due("28 round", x.seated(octal("576577"), 6, -1), NONE);
        due("28 by none", x.seated(octal("577"), 3, 0), NONE);
        due("28 k", x.seated(octal("577"), 3, 3), BAD);
        due("28 k", x.seated(octal("576"), 3, 3), BAD);
        due("28 k", x.seated(octal("576"), 3, -2), BAD);
        due("28 n", x.seated(0, 0, -1), BAD);
        due("28 n", x.seated(0, 7, -1), BAD);
        due("28 words", x.seated(1 << 18, 6, -1), BAD);
        due("28 words", x.seated(-1, 6, -1), BAD);
        due("28 words", x.seated(8, 1, -1), BAD);
        x.turn(true);
        x.swap(0, 2);
        x.draw(1);
        due("28 forwards from seat 0", x.seated(octal("576"), 3, 0), 2);
        x.dead(1, true);
        due("28 not dead ones", x.seated(octal("5656"), 4, -1), 1);
        due("28 not dead ones", x.seated(octal("5656"), 4, 0), 2);
        due("28 k", x.seated(octal("5656"), 4, 2), BAD);
        x.dead(0, true);
        x.dead(2, true);
        due("28 all dead", x.seated(0, 1, -1), NONE);
        due("28 all dead", x.seated(0, 1, 0), BAD);
        SlipWheel y = withCells(0, 1, 3);
        bookOf(y, "a");
        y.follow(0, 0b10);
        due("28 behind the book", y.seated(octal("2"), 1, -1), 2);
        due("28 behind the book", y.seated(octal("2"), 1, 0), 1);
        due("28 the first", y.seated(octal("2"), 1, 1), 0);
        due("28 a mute one adds none", y.seated(octal("222"), 3, -1), NONE);
        y.line(octal("0111"), 4);
        due("28 by lines", y.seated(octal("11"), 2, -1), 2);
        due("28 by lines", y.seated(octal("111"), 3, -1), NONE);
        y.dead(2, true);
        due("28 a mad one on the first and third turn", y.seated(octal("111"), 3, -1), 1);
        due("28 a mad one on the first and third turn", y.seated(octal("111"), 3, 0), 1);
        y.cell(2);
        due("28 blind", y.seated(octal("111"), 3, -1), 4);
        due("28 blind", y.seated(octal("111"), 3, 2), 3);
        SlipWheel full = withCells(0);
        full.draw(60);
        due("28 never full", full.seated(0, 6, -1), 1);
        SlipWheel six = withCells(0, 0, 0, 0, 0, 0);
        due("28 six", six.seated(0, 6, -1), 720);
        due("28 six", six.seated(0, 6, 5), 5);
    }

    private static void image() {
        SlipWheel x = withCells(0, 2);
        due("29 kept", x.image(), 1);
        x.add(1);
        due("29 kept anew", x.image(), 1);
        x.add(2);
        x.restore();
        due("29 the newer one", x.count(2), 1);
        x.sheet(0, 0, 3);
        typeText(x, "ab");
        x.image();
        x.drop(0);
        x.type('c', 1);
        x.restore();
        due("29 not the sheets", x.drop(0), NULL);
        due("29 not the tape", x.type('d', 1), 4);
    }

    private static void restore() {
        SlipWheel x = withCells(0, 2);
        due("30 none", x.restore(), NONE);
        x.follow(3, 99);
        x.line(octal("12"), 2);
        x.weight(0, 4, 5);
        x.dead(1, true);
        x.swap(0, 1);
        x.turn(true);
        addAll(x, 7, 3);
        x.seed(77);
        x.image();
        x.follow(3, 1);
        x.line(octal("123"), 3);
        x.line(octal("1"), 1);
        x.cell(1);
        x.weight(0, 4, 6);
        x.weight(2, 0, 7);
        x.dead(1, false);
        x.dead(2, true);
        x.swap(0, 2);
        x.turn(false);
        x.draw(5);
        x.forget(0);
        x.undo(6);
        bookOf(x, "aaaa");
        due("30 there is", x.restore(), 1);
        due("30 lot", x.seed(1), 77);
        due("30 way", x.turn(false), 1);
        due("30 follow", x.follow(3, 255), 99);
        due("30 lines", x.count(3), 1);
        due("30 cells", x.count(0), 2);
        due("30 weight", x.told(0, 7), 5);
        due("30 dead", x.told(1, 2), 1);
        due("30 seat", x.told(0, 1), 1);
        due("30 words", x.count(2), 2);
        due("30 word", x.read(1, 0), 3);
        due("30 who", x.read(0, 1), 0);
        due("30 turns", x.count(7), 2);
        due("30 turn", x.count(6), 0);
        due("30 a new cell", x.cell(2), 2);
        due("30 is new", x.told(2, 3), 1);
        due("30 is not dead", x.told(2, 2), 0);
        due("30 behind all", x.told(2, 1), 2);
        due("30 its kind", x.told(2, 0), 2);
        due("30 a new line", x.line(octal("7"), 1), 1);
        bookOf(x, "b");
        due("30 by the lines of then", x.come(0), 0b01111011);
        due("30 again", x.restore(), 1);
        due("30 again", x.count(0), 2);
        SlipWheel y = withCells(0, 0, 0);
        y.draw(2);
        y.image();
        y.draw(2);
        y.restore();
        due("30 where it stands", y.count(6), 2);
        due("30 lot again", x.seed(5), 77);
    }

    private static void ways() {
        SlipWheel x = withCells(0, 0, 0, 0);
        due("31 nothing", x.ways(0, 0, 0, 1), NULL);
        x.sheet(0, 0, 12);
        int[] row = {0, 1, 2, 3, 0, 3, 2, 3, 0, 2, 3, 3};
        for (int i = 0; i < row.length; i++) {
            x.item(0, 0, i, row[i]);
        }
        due("31 one", x.ways(0, 0, 11, 1), 0);
        due("31 forwards", x.ways(0, 0, 0, 5), 0);
        due("31 back", x.ways(0, 0, 0, 6), 1);
        due("31 back and forth", x.ways(0, 0, 0, 8), 2);
        due("31 backwards at first", x.ways(0, 0, 4, 3), 0);
        due("31 then forth", x.ways(0, 0, 4, 4), 1);
        due("31 across", x.ways(0, 0, 8, 2), NONE);
        due("31 the same", x.ways(0, 0, 10, 2), NONE);
        due("31 across in the midst", x.ways(0, 0, 0, 12), NONE);
        x.dead(1, true);
        due("31 dead", x.ways(0, 0, 0, 3), NOT);
        due("31 past the dead", x.ways(0, 0, 2, 8), 2);
        x.dead(1, false);
        x.swap(1, 2);
        due("31 by seats", x.ways(0, 0, 0, 4), NONE);
        due("31 by seats", x.ways(0, 0, 8, 2), 0);
        x.swap(1, 2);
        x.item(0, 0, 5, 4);
        due("31 no cell", x.ways(0, 0, 0, 6), NOT);
        x.item(0, 0, 5, -1);
        due("31 no cell", x.ways(0, 0, 5, 1), NOT);
        due("31 not is not asked beyond", x.ways(0, 0, 0, 5), 0);
        due("31 not ahead of none", x.ways(0, 0, 5, 7), NOT);
        due("31 index", x.ways(0, 0, 1, 12), INDEX);
        due("31 index", x.ways(0, 0, -1, 1), INDEX);
        due("31 index", x.ways(0, 0, MOST, 12), INDEX);
        due("31 index", x.ways(0, 0, LEAST, 1), INDEX);
        due("31 cast ahead of index", x.ways(0, 1, -1, 1), CAST);
        due("31 bad", x.ways(4, 0, 0, 1), BAD);
        due("31 bad", x.ways(-1, 0, 0, 1), BAD);
        due("31 bad", x.ways(0, 3, 0, 1), BAD);
        due("31 bad", x.ways(0, -1, 0, 1), BAD);
        due("31 bad", x.ways(0, 0, 0, 0), BAD);
        due("31 bad ahead of null", x.ways(1, 0, 0, 13), BAD);
        SlipWheel y = withCells(0, 3);
        y.sheet(1, 2, 12);
        for (int i = 0; i < 12; i++) {
            y.item(1, 2, i, i & 1);
        }
        due("31 two go both ways", y.ways(1, 2, 0, 12), 0);
        y.dead(1, true);
        for (int i = 0; i < 12; i++) {
            y.item(1, 2, i, 0);
        }
        due("31 one alone", y.ways(1, 2, 0, 12), 0);
        SlipWheel z = withCells(0, 0, 0);
        z.sheet(3, 1, 12);
        for (int i = 0; i < 12; i++) {
            z.item(3, 1, i, i & 1);
        }
        due("31 to and fro", z.ways(3, 1, 0, 12), 10);
    }

    private static void differ() {
        SlipWheel x = withCells(0);
        bookOf(x, "abcd");
        due("32 nothing", x.differ(0, 2, 1, 0, 1), NULL);
        x.sheet(2, 1, 24);
        int[] row = {0, 1, 3, 3, -4, 8, 1};
        for (int i = 0; i < row.length; i++) {
            x.item(2, 1, i, row[i]);
        }
        due("32 none", x.differ(0, 2, 1, 0, 2), 0);
        due("32 one", x.differ(0, 2, 1, 0, 4), 1);
        due("32 beyond its end", x.differ(0, 2, 1, 0, 5), 2);
        due("32 no word", x.differ(0, 2, 1, 5, 2), 1);
        due("32 a place", x.differ(1, 2, 1, 1, 3), 1);
        due("32 all beyond", x.differ(60, 2, 1, 0, 24), 24);
        due("32 place", x.differ(61, 2, 1, 0, 1), BAD);
        due("32 place", x.differ(-1, 2, 1, 0, 1), BAD);
        due("32 n", x.differ(0, 2, 1, 0, 0), BAD);
        due("32 n", x.differ(0, 2, 1, 0, 25), BAD);
        due("32 lane", x.differ(0, 2, 3, 0, 1), BAD);
        due("32 sheet", x.differ(0, 4, 1, 0, 1), BAD);
        due("32 cast", x.differ(0, 2, 2, -1, 1), CAST);
        due("32 index", x.differ(0, 2, 1, 1, 24), INDEX);
        due("32 index", x.differ(0, 2, 1, -1, 1), INDEX);
        due("32 index", x.differ(0, 2, 1, MOST, 24), INDEX);
        due("32 bad ahead of null", x.differ(-1, 0, 1, 0, 1), BAD);
    }

    private static void sheet() {
        SlipWheel x = new SlipWheel();
        due("33 row", x.sheet(3, 2, 24), 24);
        due("33 none", x.sheet(2, 0, 0), 0);
        due("33 it holds a row", x.item(2, 0, 0, 1), INDEX);
        due("33 its lane", x.item(2, 1, 0, 1), CAST);
        due("33 too long", x.sheet(3, 0, 25), BAD);
        due("33 size", x.sheet(3, 0, -1), SIZE);
        due("33 size", x.sheet(3, 0, LEAST), SIZE);
        due("33 bad ahead of size", x.sheet(4, 0, -1), BAD);
        due("33 bad ahead of size", x.sheet(-1, 0, -1), BAD);
        due("33 bad ahead of size", x.sheet(0, 3, -1), BAD);
        due("33 bad ahead of size", x.sheet(0, -1, -1), BAD);
        due("33 refused changes nothing", x.item(3, 2, 23, 5), 1);
        SlipWheel y = new SlipWheel();
        bookOf(y, "ha");
        y.sheet(0, 2, 2);
        y.item(0, 2, 0, 7);
        due("33 held", y.differ(0, 0, 2, 0, 2), 0);
        y.sheet(0, 2, 2);
        due("33 a new row", y.differ(0, 0, 2, 0, 2), 1);
        due("33 in another's place", y.sheet(0, 1, 5), 5);
        due("33 the old lane", y.item(0, 2, 0, 1), CAST);
        due("33 the new items", y.drop(0), 5);
    }

    private static void drop() {
        SlipWheel x = new SlipWheel();
        due("34 nothing", x.drop(1), NULL);
        x.sheet(1, 1, 7);
        x.sheet(2, 1, 0);
        due("34 items", x.drop(1), 7);
        due("34 nothing then", x.drop(1), NULL);
        due("34 a row of none", x.drop(2), 0);
        due("34 nothing then", x.drop(2), NULL);
        due("34 bad", x.drop(4), BAD);
        due("34 bad", x.drop(-1), BAD);
        due("34 nothing to write on", x.item(1, 1, 0, 0), NULL);
    }

    private static void item() {
        SlipWheel x = new SlipWheel();
        bookOf(x, "h");
        due("35 null", x.item(0, 0, 0, 0), NULL);
        x.sheet(0, 0, 2);
        x.sheet(1, 1, 2);
        x.sheet(2, 2, 2);
        due("35 set", x.item(0, 0, 1, 7), 1);
        due("35 byte", x.differ(0, 0, 0, 1, 1), 0);
        due("35 low bits", x.item(0, 0, 1, 256 + 7), 1);
        due("35 low bits of a byte", x.differ(0, 0, 0, 1, 1), 0);
        x.item(1, 1, 1, 256 + 7);
        due("35 a short has more", x.differ(0, 1, 1, 1, 1), 1);
        x.item(1, 1, 1, 65536 + 7);
        due("35 low bits of a short", x.differ(0, 1, 1, 1, 1), 0);
        x.item(2, 2, 1, 65536 + 7);
        due("35 an int has all", x.differ(0, 2, 2, 1, 1), 1);
        due("35 cast", x.item(0, 1, 0, 0), CAST);
        due("35 cast ahead of index", x.item(0, 2, 2, 0), CAST);
        due("35 index", x.item(0, 0, 2, 0), INDEX);
        due("35 index", x.item(0, 0, -1, 0), INDEX);
        due("35 index", x.item(0, 0, MOST, 0), INDEX);
        due("35 bad", x.item(4, 0, 0, 0), BAD);
        due("35 bad", x.item(0, 3, 0, 0), BAD);
        due("35 bad", x.item(-1, -1, 0, 0), BAD);
        x.cell(0);
        x.item(0, 0, 0, 0);
        due("35 a cell", x.ways(0, 0, 0, 1), 0);
        x.item(0, 0, 0, 255);
        due("35 with its sign", x.ways(0, 0, 0, 1), NOT);
    }

    private static void film() {
        SlipWheel x = withCells(0);
        bookOf(x, "abcdefgh");
        due("36 null", x.film(0, 1, 1, 0, 0), NULL);
        x.sheet(1, 0, 6);
        due("36 n", x.film(2, 3, 1, 0, 3), 3);
        due("36 they stand there", x.differ(2, 1, 0, 3, 3), 0);
        due("36 the others stay", x.differ(0, 1, 0, 0, 1), 0);
        due("36 the others stay", x.differ(1, 1, 0, 1, 2), 2);
        due("36 to the end", x.film(7, 1, 1, 0, 0), 1);
        due("36 the one behind stays", x.differ(0, 1, 0, 1, 1), 0);
        due("36 not there", x.film(7, 2, 1, 0, 0), BAD);
        due("36 not there", x.film(8, 1, 1, 0, 0), BAD);
        due("36 not there", x.film(-1, 2, 1, 0, 0), BAD);
        due("36 not there", x.film(MOST, 24, 1, 0, 0), BAD);
        due("36 not there ahead of null", x.film(8, 1, 0, 0, 0), BAD);
        due("36 n", x.film(0, 0, 1, 0, 0), BAD);
        due("36 n", x.film(0, 25, 1, 0, 0), BAD);
        due("36 sheet", x.film(0, 1, 4, 0, 0), BAD);
        due("36 lane", x.film(0, 1, 1, 3, 0), BAD);
        due("36 cast", x.film(0, 1, 1, 1, 9), CAST);
        due("36 index", x.film(0, 3, 1, 0, 4), INDEX);
        due("36 index", x.film(0, 1, 1, 0, -1), INDEX);
        due("36 index", x.film(0, 8, 1, 0, MOST), INDEX);
        due("36 refused changes nothing", x.differ(2, 1, 0, 3, 3), 0);
        bookOf(x, "abcdefghabcdefghabcdefgh");
        x.draw(1);
        x.sheet(2, 2, 24);
        due("36 24", x.film(0, 24, 2, 2, 0), 24);
        due("36 all", x.differ(0, 2, 2, 0, 24), 0);
        due("36 25 are there", x.film(0, 25, 2, 2, 0), BAD);
    }

    public static void main(String[] args) {
        newObject();
        follow();
        line();
        cell();
        weight();
        dead();
        swap();
        turn();
        told();
        type();
        tongue();
        book();
        count();
        read();
        come();
        odds();
        add();
        draw();
        seed();
        undo();
        reach();
        end();
        soon();
        forget();
        habit();
        guess();
        guessByNumbers();
        prevented();
        seated();
        image();
        restore();
        ways();
        differ();
        sheet();
        drop();
        item();
        film();
        System.out.println(asked + " answers, " + wrong + " not as due");
        if (wrong != 0) {
            System.exit(1);
        }
    }
}
