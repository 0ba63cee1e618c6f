/** Promises 18 to 23, 26 to 28, 30 to 32: ways, covers, laps, games and who is where. */
public final class RoadTest {
    private static final Check CHECK = new Check();

    public static void main(String[] args) {
        stops();
        reach();
        cover();
        round();
        games();
        superlatives();
        gather();
        sidesAndEnemies();
        CHECK.end();
    }

    private static void stops() {
        TroughTreaty x = Check.told("road 60;trough a 10 5 0;trough b 30 5 0;trough c 60 0 0;trough d 1 0 0;horse h 0 0 89 1;horse k 0 30 99 1;"
                + "horse m 0 5 96 1;horse n 0 60 60 2;");
        CHECK.due("99 behind the LEG", x.stops(0, 0), 1);
        CHECK.due("by a", x.stops(0, 1), 2);
        CHECK.due("by a, to one without WATER", x.stops(0, 2), 2);
        CHECK.due("a LEG", x.stops(0, 3), 1);
        CHECK.due("there", x.stops(1, 1), 0);
        CHECK.due("a LEG of 0 places, then", x.stops(1, 0), 2);
        CHECK.due("no way: 101 at a, 100 at d", x.stops(2, 0), -2);
        CHECK.due("no way", x.stops(2, 1), -2);
        CHECK.due("100 at d is too much", x.stops(2, 3), -2);
        CHECK.due("by its PACE", x.stops(3, 1), 1);
        CHECK.due("TROUGH 4", x.stops(0, 4), -1);
        CHECK.due("TROUGH -1", x.stops(0, -1), -1);
        CHECK.due("HORSE 4", x.stops(4, 0), -1);
        CHECK.due("HORSE -1", x.stops(-1, 0), -1);
        x.go(1);
        CHECK.due("k DRANK", x.horse(1, 6), 1);
        x.go(6);
        CHECK.due("m FELL", x.stops(2, 0), -2);
        CHECK.due("m FELL, no such TROUGH", x.stops(2, 4), -1);
        CHECK.due("h at 96 behind 7 HOURS: no way", x.stops(0, 0), -2);
        CHECK.due("h to d", x.stops(0, 3), 1);
        // PACE 1 and 60 places each from TROUGH to TROUGH: a stop at each.
        Check.text(x, "road 60;trough a 0 1 0;trough b 59 1 0;trough c 60 0 0;horse h 0 0 41 1;");
        CHECK.due("41 and 59", x.stops(0, 1), 2);
        CHECK.due("drinks at a first", x.stops(0, 2), 2);
        CHECK.due("there", x.stops(0, 0), 0);
        Check.text(x, "road 60;trough a 0 0 0;trough b 59 1 0;trough c 60 0 0;horse h 0 0 41 1;");
        CHECK.due("nothing to drink at a", x.stops(0, 1), -2);
        x.fill(0, 1);
        CHECK.due("WATER now", x.stops(0, 1), 2);
        Check.text(x, "road 60;trough a 1 1 0;trough b 0 1 0;trough c 60 1 0;horse h 0 60 40 1;");
        CHECK.due("THIRST 99 there", x.stops(0, 0), 1);
        CHECK.due("THIRST 100 there, and so by another one", x.stops(0, 1), 2);
    }

    private static void reach() {
        TroughTreaty x = Check.told("road 60;trough a 10 5 0;trough b 30 0 0;trough c 60 0 0;trough d 11 0 0;horse h 0 10 98 1;horse k 0 0 90 3;horse m 0 10 99 1;");
        CHECK.due("a LEG of 0 places, one of 1", x.reach(0), 9);
        CHECK.due("28 places at most", x.reach(1), 9);
        CHECK.due("where it is alone", x.reach(2), 1);
        CHECK.due("HORSE 3", x.reach(3), -1);
        CHECK.due("HORSE -1", x.reach(-1), -1);
        x.lead(1, 33);
        CHECK.due("27 places to c, one HOUR to b", x.reach(1), 15);
        x.lead(1, 2);
        CHECK.due("28 places: ten HOURS", x.reach(1), 9);
        x.lead(1, 3);
        CHECK.due("27 places: nine HOURS", x.reach(1), 11);
        x.lead(2, 0);
        x.go(1);
        CHECK.due("FELL", x.reach(2), 0);
    }

    private static void cover() {
        TroughTreaty x = Check.told("road 30;trough a 20 0 0;trough b 10 0 0;trough c 15 0 0;trough d 0 0 0;trough e 30 0 0;");
        CHECK.due("none needed", x.cover(30), 0);
        CHECK.due("of several the least", x.cover(20), 1);
        CHECK.due("the middle one", x.cover(15), 4);
        CHECK.due("the middle one", x.cover(16), 4);
        CHECK.due("two", x.cover(10), 3);
        CHECK.due("two", x.cover(14), 3);
        CHECK.due("by none", x.cover(9), -2);
        CHECK.due("n 60", x.cover(60), 0);
        CHECK.due("n 61", x.cover(61), -1);
        CHECK.due("n 0", x.cover(0), -1);
        CHECK.due("n -1", x.cover(-1), -1);
        CHECK.due("n 1", x.cover(1), -2);
        Check.text(x, "road 2;trough a 1 0 0;");
        CHECK.due("n 1", x.cover(1), 1);
        Check.text(x, "road 30;trough d 0 0 0;trough e 30 0 0;trough c 15 0 0;");
        CHECK.due("ends help nothing", x.cover(29), 4);
    }

    private static void round() {
        TroughTreaty x = Check.told("road 30;trough a 20 0 0;trough b 10 0 0;trough c 12 0 0;horse h 0 0 99 1;horse k 0 30 0 1;horse m 0 11 0 1;horse n 0 18 0 1;"
                + "horse o 0 20 0 1;horse p 0 10 0 1;");
        int[] ways = {20, 20, 11, 12, 10, 10};
        for (int i = 0; i < 6; i++) {
            CHECK.due("round(" + i + ")", x.round(i), ways[i]);
        }
        CHECK.due("HORSE 6", x.round(6), -1);
        CHECK.due("HORSE -1", x.round(-1), -1);
        x.go(1);
        CHECK.due("FELL", x.round(0), 20);
        Check.text(x, "horse h 0 7 99 1;");
        CHECK.due("no TROUGHS", x.round(0), 0);
        Check.text(x, "trough a 3 0 0;horse h 0 7 99 1;");
        CHECK.due("one TROUGH", x.round(0), 4);
    }

    private static void rests(TroughTreaty x, int one, int other, int... wanted) {
        CHECK.due("rests(" + one + ", " + other + ")", x.rests(one, other), wanted.length);
        for (int k = 0; k < wanted.length; k++) {
            CHECK.due("rest(" + one + ", " + other + ", " + k + ")", x.rest(one, other, k), wanted[k]);
        }
        CHECK.due("rest behind the last one", x.rest(one, other, wanted.length), -2);
    }

    private static void games() {
        TroughTreaty x = Check.told("horse h 0 0 99 1;horse k 3 0 4 9;horse m 0 0 10 9;horse n 0 0 50 8;horse o 3 0 45 8;horse p 0 0 22 9;");
        // h, k: 7 7 | 19 9; 1 0 | 0 4: k goes on (9 > 7), then h drinks (19 > 0).
        rests(x, 0, 1, 1);
        rests(x, 1, 0, 10);
        // k, m: 7 7 | 0 9; 9 2 | 4 4: both go on.
        rests(x, 1, 2, 11);
        // n, o: 7 7 | 10 8; 8 9 | 4 4: one of both drinks alone.
        rests(x, 3, 4, 1, 10);
        rests(x, 4, 3, 1, 10);
        // n, p (one SIDE): 10 10 | 10 9; 8 4 | 4 4.
        rests(x, 3, 5, 0);
        CHECK.due("alike", x.rests(1, 1), -1);
        CHECK.due("HORSE 6", x.rests(1, 6), -1);
        CHECK.due("HORSE -1", x.rests(-1, 1), -1);
        CHECK.due("alike", x.rest(1, 1, 0), -1);
        CHECK.due("HORSE 6", x.rest(6, 1, 0), -1);
        CHECK.due("k -1", x.rest(0, 1, -1), -1);
        CHECK.due("k far off", x.rest(0, 1, 1000000), -2);
        // THIRST 19 by 5 is 3, PACE 7 by 2 is 3: as much, so no more otherwise.
        Check.text(x, "horse h 0 0 19 7;horse k 3 0 19 7;");
        rests(x, 0, 1, 0, 1, 10, 11);
        // PACE as much as both have who drink, THIRST by 5 as much as PACE by 2.
        Check.text(x, "horse h 0 0 20 8;horse k 2 0 20 8;");
        rests(x, 0, 1, 0, 1, 10, 11);
        // SIDES 3 and 1 differ by 2.
        Check.text(x, "horse h 3 0 20 8;horse k 1 0 20 8;");
        rests(x, 0, 1, 0, 1, 10, 11);
        Check.text(x, "horse h 0 0 20 9;horse k 2 0 20 9;");
        rests(x, 0, 1, 1, 10, 11);
    }

    private static void superlatives() {
        TroughTreaty x = Check.told("trough a 4 9 0;trough b 8 5 0;trough c 12 5 0;horse h 0 6 50 1;horse k 0 20 99 1;horse m 0 0 99 1;horse n 0 9 1 1;");
        CHECK.due("thirstiest", x.thirstiest(), 1);
        CHECK.due("driest", x.driest(), 1);
        CHECK.due("nearest, the first of several", x.nearest(0), 0);
        CHECK.due("nearest", x.nearest(1), 2);
        CHECK.due("nearest", x.nearest(2), 0);
        CHECK.due("nearest", x.nearest(3), 1);
        CHECK.due("HORSE 4", x.nearest(4), -1);
        CHECK.due("HORSE -1", x.nearest(-1), -1);
        x.fill(1, 1);
        CHECK.due("driest", x.driest(), 2);
        x.go(1);
        CHECK.due("who FELL doesn't count", x.thirstiest(), 0);
        CHECK.due("nearest to one that FELL", x.nearest(1), 2);
        x.go(100);
        CHECK.due("none is ON", x.thirstiest(), -2);
        Check.text(x, "horse h 0 0 0 1;");
        CHECK.due("no THIRST", x.thirstiest(), 0);
        CHECK.due("no TROUGHS", x.driest(), -1);
        CHECK.due("no TROUGHS", x.nearest(0), -2);
        Check.text(x, "trough a 0 99 0;");
        CHECK.due("full", x.driest(), 0);
        CHECK.due("no HORSE", x.nearest(0), -1);
        Check.text(x, "road 60;trough a 60 99 0;horse h 0 0 0 1;");
        CHECK.due("nearest, 60 places off", x.nearest(0), 0);
    }

    private static void gather() {
        TroughTreaty x = Check.told("road 60;trough a 0 0 0;trough b 30 0 0;trough c 31 0 0;horse h 0 0 0 2;horse k 0 60 0 9;horse m 0 60 98 1;");
        CHECK.due("m needs 29 HOURS to c", x.gather(0), 2);
        CHECK.due("HOURS", x.gather(1), 29);
        x.go(2);
        CHECK.due("m FELL", x.gather(0), 0);
        CHECK.due("HOURS of k, not whole ones", x.gather(1), 7);
        CHECK.due("what 2", x.gather(2), -1);
        CHECK.due("what -1", x.gather(-1), -1);
        x.go(100);
        CHECK.due("none is ON", x.gather(0), -2);
        CHECK.due("none is ON", x.gather(1), -2);
        CHECK.due("none is ON, what 2", x.gather(2), -1);
        Check.text(x, "horse h 0 0 0 2;");
        CHECK.due("no TROUGHS", x.gather(0), -2);
        CHECK.due("no TROUGHS", x.gather(1), -2);
        Check.text(x, "road 60;trough b 30 0 0;trough c 31 0 0;horse h 0 1 0 2;");
        CHECK.due("15 HOURS to both: the first", x.gather(0), 0);
        CHECK.due("HOURS", x.gather(1), 15);
        Check.text(x, "trough a 5 0 0;horse h 0 5 0 2;");
        CHECK.due("there", x.gather(1), 0);
    }

    private static void sidesAndEnemies() {
        TroughTreaty x = Check.told("horse h 3 5 0 1;horse k 0 5 0 1;horse m 0 5 99 1;horse n 1 6 0 1;horse o 3 5 0 1;law fight 0;");
        CHECK.due("sides", x.sides(), 11);
        CHECK.due("enemies of h", x.enemies(0), 6);
        CHECK.due("enemies of k", x.enemies(1), 17);
        CHECK.due("enemies of n", x.enemies(3), 0);
        CHECK.due("HORSE 5", x.enemies(5), -1);
        CHECK.due("HORSE -1", x.enemies(-1), -1);
        x.go(1);
        CHECK.due("m FELL", x.enemies(0), 2);
        CHECK.due("of one that FELL", x.enemies(2), 0);
        CHECK.due("k is of its SIDE", x.sides(), 11);
        Check.text(x, "horse h 3 5 99 1;horse k 0 5 0 1;");
        CHECK.due("sides", x.sides(), 9);
        x.go(1);
        CHECK.due("sides", x.sides(), 1);
        x.go(100);
        CHECK.due("none", x.sides(), 0);
    }
}
