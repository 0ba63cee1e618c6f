/** Promises 24 and 38, and the numbers of promise 12: rain by chance. */
public final class RainTest {
    private static final Check CHECK = new Check();

    public static void main(String[] args) {
        staysDry();
        numbers();
        chance();
        CHECK.end();
    }

    private static void dry(int rain, int n, long above, long below) {
        TroughTreaty x = Check.told("rain " + rain + ";");
        CHECK.due("rain " + rain + ": staysDry(" + n + ", 0)", x.staysDry(n, 0), above);
        CHECK.due("rain " + rain + ": staysDry(" + n + ", 1)", x.staysDry(n, 1), below);
    }

    private static void staysDry() {
        dry(0, 0, 1, 1);
        dry(0, 6, 1, 1);
        dry(100, 0, 1, 1);
        dry(100, 1, 0, 1);
        dry(100, 6, 0, 1);
        dry(50, 1, 1, 2);
        dry(50, 6, 1, 64);
        dry(1, 6, 941480149401L, 1000000000000L);
        dry(99, 6, 1, 1000000000000L);
        dry(30, 2, 49, 100);
        dry(75, 3, 1, 64);
        dry(40, 3, 27, 125);
        TroughTreaty x = new TroughTreaty();
        CHECK.due("staysDry(7, 0)", x.staysDry(7, 0), -1);
        CHECK.due("staysDry(-1, 0)", x.staysDry(-1, 0), -1);
        CHECK.due("staysDry(1, 2)", x.staysDry(1, 2), -1);
        CHECK.due("staysDry(1, -1)", x.staysDry(1, -1), -1);
    }

    /** The numbers by their rule, in the plainest form. */
    private static long state;

    private static boolean rains(int odds) {
        state = (state * 1103515245L + 12345L) % 2147483648L;
        return state / 65536 % 100 < odds;
    }

    private static void numbers() {
        TroughTreaty without = Check.told("trough a 0 0 1;trough b 1 0 1;trough c 2 0 1;rain 30;seed 7;");
        Check.text(without, "trough a 0 0 1;trough b 1 0 1;trough c 2 0 1;rain 30;");
        state = 0;
        without.go(10);
        for (int trough = 0; trough < 3; trough++) {
            CHECK.due("seed 0 without", without.trough(trough, 1), rains(30) ? 1 : 0);
        }
        for (int seed : new int[] {0, 1, 5, 77, 4242, 99999}) {
            for (int odds : new int[] {1, 30, 50, 70, 99}) {
                TroughTreaty x = Check.told("trough a 0 0 1;trough b 1 0 0;trough c 2 5 2;seed " + seed + ";rain " + odds + ";");
                state = seed;
                int a = 0;
                int c = 5;
                for (int i = 0; i < 9; i++) {
                    a += rains(odds) ? 1 : 0;
                    rains(odds);
                    c += rains(odds) ? 2 : 0;
                    x.go(10);
                    // What is told ahead takes no numbers.
                    x.ahead(20, 3, 0);
                    x.chance(9, 20, 0, 0);
                    CHECK.due("a", x.trough(0, 1), a);
                    CHECK.due("b", x.trough(1, 1), 0);
                    CHECK.due("c", x.trough(2, 1), c);
                }
            }
        }
    }

    private static int timesOfTen(int seed, int odds, int tenths, int water) {
        state = seed;
        int times = 0;
        for (int i = 0; i < 10; i++) {
            int a = 0;
            for (int k = 0; k < tenths; k++) {
                a += rains(odds) ? 1 : 0;
                rains(odds);
            }
            times += a >= water ? 1 : 0;
        }
        return times;
    }

    private static void chance() {
        for (int seed : new int[] {0, 1, 12345, 99999, 2147483647}) {
            for (int odds : new int[] {1, 20, 50, 80, 99}) {
                TroughTreaty x = Check.told("trough a 0 0 1;trough b 1 0 0;seed 3;rain " + odds + ";");
                for (int water = 0; water < 6; water++) {
                    CHECK.due("chance of " + water, x.chance(seed, 45, 0, water), timesOfTen(seed, odds, 4, water));
                    CHECK.due("chance of " + water, x.chance(seed, 9, 0, water), water == 0 ? 10 : 0);
                }
            }
        }
        TroughTreaty x = Check.told("trough a 0 50 9;trough b 1 0 9;horse h 0 1 50 1;rain 100;");
        CHECK.due("always", x.chance(7, 10, 0, 59), 10);
        CHECK.due("never", x.chance(7, 10, 0, 60), 0);
        CHECK.due("n 99, WATER 99 at most", x.chance(7, 99, 0, 99), 10);
        x.go(9);
        CHECK.due("from now", x.chance(7, 1, 0, 59), 10);
        CHECK.due("seed -1", x.chance(-1, 1, 0, 0), -1);
        CHECK.due("n 0", x.chance(0, 0, 0, 0), -1);
        CHECK.due("n 100", x.chance(0, 100, 0, 0), -1);
        CHECK.due("TROUGH 2", x.chance(0, 1, 2, 0), -1);
        CHECK.due("TROUGH -1", x.chance(0, 1, -1, 0), -1);
        CHECK.due("water 100", x.chance(0, 1, 0, 100), -1);
        CHECK.due("water -1", x.chance(0, 1, 0, -1), -1);
        CHECK.due("all stays", x.count(5), 9);
        Check.text(x, "trough a 0 50 9;rain 0;");
        CHECK.due("never", x.chance(7, 99, 0, 51), 0);
    }
}
