// No call may throw or fail to end, whatever its numbers are, in an empty, a usual and a full object.
public final class WildTests {
    private static final int[] WILD = {Integer.MIN_VALUE, -21, -4, -2, -1, 0, 1, 3, 6, 8, 24, 61, 256, Integer.MAX_VALUE};
    private static long answers = 0;

    private static SlipWheel empty() {
        return new SlipWheel();
    }

    private static SlipWheel usual() {
        SlipWheel x = new SlipWheel();
        for (int kind = 0; kind < 4; kind++) {
            x.cell(kind);
            x.sheet(kind, kind % 3, kind * 8);
        }
        x.line(10, 2);
        x.follow(3, 0);
        x.draw(7);
        x.dead(1, true);
        x.forget(0);
        x.image();
        x.type(0x6162L, 2);
        return x;
    }

    private static SlipWheel full() {
        SlipWheel x = usual();
        x.cell(1);
        x.cell(2);
        for (int line = 0; line < 6; line++) {
            x.line(line, 4);
        }
        for (int part = 0; part < 10; part++) {
            x.type(0x6162636465666768L, 8);
        }
        for (int part = 0; part < 4; part++) {
            x.draw(60);
        }
        x.image();
        return x;
    }

    private static SlipWheel allDead() {
        SlipWheel x = full();
        for (int cell = 0; cell < 6; cell++) {
            x.dead(cell, true);
        }
        return x;
    }

    private static SlipWheel made(int state) {
        return state == 0 ? empty() : state == 1 ? usual() : state == 2 ? full() : allDead();
    }

    private static void oneNumber(SlipWheel x, int a) {
        answers += x.cell(a) + x.count(a) + x.come(a) + x.add(a) + x.draw(a) + x.seed(a) + x.undo(a) + x.forget(a);
        answers += x.guess(a) + x.prevented(a) + x.drop(a) + x.turn(a > 0) + x.end() + x.tongue() + x.book() + x.image() + x.restore();
    }

    private static void twoNumbers(SlipWheel x, int a, int b) {
        answers += x.follow(a, b) + x.line(a, b) + x.dead(a, b > 0) + x.swap(a, b) + x.told(a, b) + x.read(a, b);
        answers += x.reach(a, b) + x.soon(a, b) + x.habit(a, b) + x.type((long) a << 32 | a, b) + x.type(a, b) + x.type(0x6161616161616161L, b);
    }

    private static void threeNumbers(SlipWheel x, int a, int b, int c) {
        answers += x.weight(a, b, c) + x.odds(a, b, c) + x.seated(a, b, c) + x.sheet(a, b, c);
    }

    private static void manyNumbers(SlipWheel x, int a, int b, int c, int d) {
        answers += x.ways(a, b, c, d) + x.item(a, b, c, d);
        for (int e : WILD) {
            answers += x.differ(a, b, c, d, e) + x.film(a, b, c, d, e);
        }
    }

    public static void main(String[] args) {
        for (int state = 0; state < 4; state++) {
            for (int a : WILD) {
                SlipWheel x = made(state);
                oneNumber(x, a);
                SlipWheel y = made(state);
                SlipWheel z = made(state);
                for (int b : WILD) {
                    twoNumbers(y, a, b);
                    for (int c : WILD) {
                        for (int d : WILD) {
                            manyNumbers(z, a, b, c, d);
                        }
                        threeNumbers(z, a, b, c);
                        threeNumbers(y, a, b, c);
                    }
                }
                oneNumber(y, a);
                oneNumber(z, a);
            }
        }
        System.out.println("no call threw (" + answers + ")");
    }
}
