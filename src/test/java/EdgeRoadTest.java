import java.util.function.Supplier;

/** The boundaries that promises 18 to 28 and 30 to 32 name, a sentence each. */
public final class EdgeRoadTest {
    private static final Check CHECK = new Check();
    private static final int MIN = Integer.MIN_VALUE;
    private static final int MAX = Integer.MAX_VALUE;

    public static void main(String[] args) {
        legHours();
        stopsBelowHundred();
        stopsThere();
        stopsWaterNow();
        stopsFewest();
        stopsNoWay();
        stopsRefused();
        reachOneLeg();
        reachRefused();
        coverPlaces();
        coverFewestAndLeast();
        coverRefused();
        roundWays();
        roundRefused();
        restNoMoreOtherwise();
        restCutAmounts();
        restsRefused();
        restNumbers();
        dryLeastTerms();
        dryRefused();
        peaceTalkedNeverFought();
        peaceRefused();
        thirstiestOf();
        driestOf();
        nearestOf();
        gatherOf();
        gatherRefused();
        sidesOf();
        enemiesOf();
        CHECK.end();
    }

    private static int stops(int place, int thirst, int pace, String troughs, int goal) {
        return Check.told("road 60;" + troughs + "horse h 0 " + place + " " + thirst + " " + pace + ";").stops(0, goal);
    }

    private static void legHours() {
        CHECK.about("LEG: so many HOURS as its PACE needs; THIRST is 1 more in each");
        String a = "trough a 36 0 0;";
        CHECK.due("36 by 9: 4 HOURS", stops(0, 95, 9, a, 0), 1);
        CHECK.due("36 by 9: 4 HOURS", stops(0, 96, 9, a, 0), -2);
        CHECK.due("37 by 9: 5 HOURS", stops(0, 95, 9, "trough a 37 0 0;", 0), -2);
        CHECK.due("37 by 9: 5 HOURS", stops(0, 94, 9, "trough a 37 0 0;", 0), 1);
        CHECK.due("35 by 9: 4 HOURS", stops(1, 95, 9, a, 0), 1);
        CHECK.due("27 by 9: 3 HOURS", stops(9, 96, 9, a, 0), 1);
        CHECK.due("1 by 9: 1 HOUR", stops(35, 98, 9, a, 0), 1);
        CHECK.due("1 by 9: 1 HOUR", stops(37, 99, 9, a, 0), -2);
        CHECK.due("60 by 1: 60 HOURS", stops(0, 39, 1, "trough a 60 0 0;", 0), 1);
        CHECK.due("60 by 1: 60 HOURS", stops(0, 40, 1, "trough a 60 0 0;", 0), -2);
    }

    private static void stopsBelowHundred() {
        CHECK.about("STOPS: THIRST is below 100 behind each LEG (ahead of drinking)");
        String both = "trough a 10 9 0;trough b 20 9 0;";
        CHECK.due("99 there", stops(0, 89, 1, both, 0), 1);
        CHECK.due("100 there, with WATER", stops(0, 90, 1, both, 0), -2);
        CHECK.due("99 at the last one", stops(0, 79, 1, both, 1), 1);
        CHECK.due("100 at the last one: by the other", stops(0, 80, 1, both, 1), 2);
        CHECK.due("100 at the other, too", stops(0, 90, 1, both, 1), -2);
        // Drunk at a: 60 places from 0 on are 60.
        CHECK.due("all its THIRST away", stops(0, 99, 1, "trough a 0 1 0;trough b 60 0 0;", 1), 2);
    }

    private static void stopsThere() {
        CHECK.about("18: (0: it is there)");
        CHECK.due("there", stops(10, 99, 1, "trough a 10 0 0;", 0), 0);
        CHECK.due("a PLACE ahead", stops(9, 98, 1, "trough a 10 0 0;", 0), 1);
        CHECK.due("a PLACE behind", stops(11, 98, 1, "trough a 10 0 0;", 0), 1);
        CHECK.about("STOPS: a LEG may be of 0 places");
        CHECK.due("drinks where it is", stops(10, 99, 1, "trough a 10 1 0;trough b 11 0 0;", 1), 2);
        CHECK.due("needs it not", stops(10, 98, 1, "trough a 10 1 0;trough b 11 0 0;", 1), 1);
        CHECK.due("no WATER where it is", stops(10, 99, 1, "trough a 10 0 0;trough b 11 0 0;", 1), -2);
    }

    private static void stopsWaterNow() {
        CHECK.about("STOPS: if it has WATER now");
        TroughTreaty x = Check.told("trough a 10 0 0;trough b 11 0 9;horse h 0 10 99 1;rain 100;");
        CHECK.due("0", x.stops(0, 1), -2);
        x.fill(0, 1);
        CHECK.due("1", x.stops(0, 1), 2);
        x.undo();
        CHECK.due("0 again", x.stops(0, 1), -2);
    }

    private static void stopsFewest() {
        CHECK.about("STOPS: by as few LEGS as may be, each to a TROUGH");
        // Behind drinking once the whole road is one LEG: two are the most there can be.
        TroughTreaty x = Check.told("road 60;trough a 60 0 0;trough b 48 1 0;trough c 36 1 0;trough d 24 1 0;trough e 12 1 0;trough f 0 1 0;"
                + "horse h 0 0 99 1;");
        int[] wanted = {2, 2, 2, 2, 2, 0};
        for (int i = 0; i < 6; i++) {
            CHECK.due("stops(0, " + i + ")", x.stops(0, i), wanted[i]);
        }
        TroughTreaty dry = Check.told("road 60;trough a 60 0 0;trough b 48 0 0;trough c 36 0 0;trough d 24 0 0;trough e 12 0 0;trough f 0 0 0;"
                + "horse h 0 0 39 1;");
        for (int i = 0; i < 5; i++) {
            CHECK.due("one LEG to " + i, dry.stops(0, i), 1);
        }
    }

    private static void stopsNoWay() {
        CHECK.about("18: -2: there is no way, it FELL");
        CHECK.leavesAll(() -> Check.told("trough a 10 9 0;horse h 0 9 99 9;"), "stops(0, 0)", x -> x.stops(0, 0), -2);
        CHECK.leavesAll(Scenes::busy, "stops(2, 0)", x -> x.stops(2, 0), -2);
        CHECK.due("it FELL there", Scenes.fallen().stops(0, 0), -2);
    }

    private static void stopsRefused() {
        CHECK.about("18: NONE: no such ones");
        for (int bad : new int[] {-1, 3, MIN, MAX}) {
            CHECK.leavesAll(Scenes::busy, "stops(" + bad + ", 0)", x -> x.stops(bad, 0), -1);
        }
        for (int bad : new int[] {-1, 2, MIN, MAX}) {
            CHECK.leavesAll(Scenes::busy, "stops(0, " + bad + ")", x -> x.stops(0, bad), -1);
            CHECK.leavesAll(Scenes::busy, "stops(2, " + bad + ") of one that FELL", x -> x.stops(2, bad), -1);
        }
        CHECK.leavesAll(Scenes::busy, "stops(0, 1)", x -> x.stops(0, 1), 1);
    }

    private static void reachOneLeg() {
        CHECK.about("REACH: TROUGHS (bits) it comes to by one LEG so");
        String four = "road 60;trough a 10 0 0;trough b 20 0 0;trough c 30 0 0;trough d 60 0 0;horse h 0 10 ";
        CHECK.due("THIRST 99", Check.told(four + "99 1;").reach(0), 1);
        CHECK.due("THIRST 90", Check.told(four + "90 1;").reach(0), 1);
        CHECK.due("THIRST 89", Check.told(four + "89 1;").reach(0), 3);
        CHECK.due("THIRST 79", Check.told(four + "79 1;").reach(0), 7);
        CHECK.due("THIRST 50", Check.told(four + "50 1;").reach(0), 7);
        CHECK.due("THIRST 49", Check.told(four + "49 1;").reach(0), 15);
        CHECK.due("WATER helps not", Check.told("road 60;trough a 10 99 0;trough b 60 99 0;horse h 0 10 50 1;").reach(0), 1);
        CHECK.due("no TROUGHS", Check.told("horse h 0 10 0 1;").reach(0), 0);
        CHECK.due("none near", Check.told("trough a 10 0 0;horse h 0 9 99 9;").reach(0), 0);
        CHECK.about("19: (bits; 0: it FELL)");
        CHECK.leavesAll(Scenes::busy, "reach(2)", x -> x.reach(2), 0);
        CHECK.due("it FELL there", Scenes.fallen().reach(0), 0);
    }

    private static void reachRefused() {
        CHECK.about("19: NONE: no such HORSE");
        for (int bad : new int[] {-1, 3, 6, MIN, MAX}) {
            CHECK.leavesAll(Scenes::busy, "reach(" + bad + ")", x -> x.reach(bad), -1);
        }
        CHECK.leavesAll(Scenes::busy, "reach(0)", x -> x.reach(0), 3);
    }

    private static void coverPlaces() {
        CHECK.about("COVER: there are never more than n places");
        CHECK.due("LENGTH 2, n 2", Check.told("road 2;").cover(2), 0);
        CHECK.due("LENGTH 2, n 1", Check.told("road 2;").cover(1), -2);
        CHECK.due("LENGTH 2, n 1, one at 1", Check.told("road 2;trough a 1 0 0;").cover(1), 1);
        CHECK.due("LENGTH 60, n 60", Check.told("road 60;").cover(60), 0);
        CHECK.due("LENGTH 60, n 59", Check.told("road 60;").cover(59), -2);
        String mid = "road 60;trough a 20 0 0;";
        CHECK.due("from 0 to the first: 20; to the LENGTH: 40", Check.told(mid).cover(40), 1);
        CHECK.due("39", Check.told(mid).cover(39), -2);
        String late = "road 60;trough a 40 0 0;";
        CHECK.due("from 0: 40", Check.told(late).cover(40), 1);
        CHECK.due("from 0: 39", Check.told(late).cover(39), -2);
        String gap = "road 60;trough a 10 0 0;trough b 50 0 0;";
        CHECK.due("between: 40", Check.told(gap).cover(40), 3);
        CHECK.due("between: 39", Check.told(gap).cover(39), -2);
        CHECK.due("one of them: 50", Check.told(gap).cover(50), 1);
        CHECK.due("at the ends it helps not", Check.told("road 60;trough a 0 0 0;trough b 60 0 0;").cover(59), -2);
        CHECK.due("at the ends it is needed not", Check.told("road 60;trough a 0 0 0;trough b 60 0 0;").cover(60), 0);
    }

    private static void coverFewestAndLeast() {
        CHECK.about("COVER: the fewest TROUGHS (bits, of several the least)");
        String three = "road 30;trough a 10 0 0;trough b 20 0 0;trough c 15 0 0;";
        CHECK.due("c by itself", Check.told(three).cover(15), 4);
        CHECK.due("a and b", Check.told(three).cover(10), 3);
        CHECK.due("a of a, b, c", Check.told(three).cover(20), 1);
        CHECK.due("a of a, b", Check.told("road 30;trough b 20 0 0;trough a 10 0 0;").cover(20), 1);
        String six = "road 7;trough a 6 0 0;trough b 5 0 0;trough c 4 0 0;trough d 3 0 0;trough e 2 0 0;trough f 1 0 0;";
        CHECK.due("all six", Check.told(six).cover(1), 63);
        CHECK.due("three", Check.told(six).cover(2), 21);
        CHECK.due("none", Check.told(six).cover(7), 0);
        CHECK.due("one", Check.told(six).cover(6), 1);
    }

    private static void coverRefused() {
        CHECK.about("20: -2: by none");
        CHECK.leavesAll(Scenes::busy, "cover(17)", x -> x.cover(17), -2);
        CHECK.due("cover(18)", Scenes.busy().cover(18), 2);
        CHECK.about("20: (n 1 .. 60; bits); NONE: no such n");
        for (int bad : new int[] {0, -1, 61, MIN, MAX}) {
            CHECK.leavesAll(Scenes::busy, "cover(" + bad + ")", x -> x.cover(bad), -1);
        }
        CHECK.leavesAll(Scenes::busy, "cover(60)", x -> x.cover(60), 0);
        CHECK.leavesAll(Scenes::busy, "cover(1)", x -> x.cover(1), -2);
    }

    private static void roundWays() {
        CHECK.about("ROUND: the shortest way from where it is by all TROUGHS");
        String two = "road 60;trough a 20 0 0;trough b 50 0 0;horse h 0 ";
        int[] places = {0, 19, 20, 21, 34, 35, 36, 49, 50, 51, 60};
        int[] wanted = {50, 31, 30, 31, 44, 45, 44, 31, 30, 31, 40};
        for (int i = 0; i < places.length; i++) {
            CHECK.due("from " + places[i], Check.told(two + places[i] + " 0 1;").round(0), wanted[i]);
        }
        CHECK.due("no TROUGHS", Check.told("horse h 0 7 0 1;").round(0), 0);
        CHECK.due("one, there", Check.told("trough a 7 0 0;horse h 0 7 0 1;").round(0), 0);
        CHECK.due("one, 7 off", Check.told("trough a 0 0 0;horse h 0 7 0 1;").round(0), 7);
        CHECK.due("the ends", Check.told("road 60;trough a 0 0 0;trough b 60 0 0;horse h 0 30 0 1;").round(0), 90);
        CHECK.due("one that FELL", Scenes.busy().round(2), 15);
    }

    private static void roundRefused() {
        CHECK.about("21: NONE: no such HORSE");
        for (int bad : new int[] {-1, 3, 6, MIN, MAX}) {
            CHECK.leavesAll(Scenes::busy, "round(" + bad + ")", x -> x.round(bad), -1);
        }
        CHECK.due("round(0) of none", new TroughTreaty().round(0), -1);
        CHECK.leavesAll(Scenes::busy, "round(0)", x -> x.round(0), 7);
    }

    private static void rests(String horses, int... wanted) {
        TroughTreaty x = Check.told(horses);
        CHECK.due(horses + " rests", x.rests(0, 1), wanted.length);
        for (int k = 0; k < wanted.length; k++) {
            CHECK.due(horses + " rest " + k, x.rest(0, 1, k), wanted[k]);
        }
        CHECK.due(horses + " rest behind the last", x.rest(0, 1, wanted.length), -2);
    }

    private static void restNoMoreOtherwise() {
        CHECK.about("A REST: neither would have more otherwise");
        // Both drink: 10 less 3 is 7; going on alone has PACE.
        rests("horse h 0 0 0 7;horse k 3 0 0 7;", 0, 11);
        rests("horse h 0 0 0 8;horse k 3 0 0 7;", 11);
        rests("horse h 0 0 0 7;horse k 3 0 0 8;", 11);
        // Both go on: PACE by 2; drinking alone has THIRST by 5.
        rests("horse h 0 0 19 7;horse k 3 0 0 6;", 0, 11);
        rests("horse h 0 0 20 7;horse k 3 0 0 6;", 0);
        rests("horse h 0 0 0 6;horse k 3 0 19 7;", 0, 11);
        rests("horse h 0 0 0 6;horse k 3 0 20 7;", 0);
        // One drinks alone and would have as much going on; the other as much drinking.
        rests("horse h 0 0 15 7;horse k 3 0 0 7;", 0, 1, 11);
        rests("horse h 0 0 0 7;horse k 3 0 15 7;", 0, 10, 11);
        rests("horse h 0 0 15 7;horse k 3 0 15 7;", 0, 1, 10, 11);
        CHECK.about("GAME: 10 less the difference of their SIDES");
        rests("horse h 2 0 50 9;horse k 2 0 50 9;", 0);
        rests("horse h 2 0 50 9;horse k 3 0 50 9;", 0, 1, 10);
        rests("horse h 3 0 50 9;horse k 2 0 50 9;", 0, 1, 10);
        rests("horse h 1 0 50 9;horse k 3 0 50 9;", 1, 10);
        rests("horse h 3 0 50 9;horse k 1 0 50 9;", 1, 10);
    }

    private static void restCutAmounts() {
        CHECK.about("GAME: THIRST by 5, cut; PACE by 2, cut");
        // THIRST 4 by 5 is 0, PACE 1 by 2 is 0.
        rests("horse h 0 0 4 1;horse k 3 0 4 1;", 0, 11);
        rests("horse h 0 0 5 1;horse k 3 0 4 1;", 0);
        rests("horse h 0 0 5 2;horse k 3 0 4 2;", 0, 11);
        rests("horse h 0 0 9 3;horse k 3 0 9 3;", 0, 11);
        rests("horse h 0 0 10 3;horse k 3 0 9 3;", 0);
        rests("horse h 0 0 99 9;horse k 3 0 99 9;", 1, 10);
    }

    private static void restsRefused() {
        CHECK.about("22: NONE: no such HORSES, alike");
        for (int bad : new int[] {-1, 3, MIN, MAX}) {
            CHECK.leavesAll(Scenes::busy, "rests(" + bad + ", 0)", x -> x.rests(bad, 0), -1);
            CHECK.leavesAll(Scenes::busy, "rests(0, " + bad + ")", x -> x.rests(0, bad), -1);
            CHECK.leavesAll(Scenes::busy, "rest(" + bad + ", 0, 0)", x -> x.rest(bad, 0, 0), -1);
            CHECK.leavesAll(Scenes::busy, "rest(0, " + bad + ", 0)", x -> x.rest(0, bad, 0), -1);
        }
        for (int horse = 0; horse < 3; horse++) {
            int one = horse;
            CHECK.leavesAll(Scenes::busy, "rests(" + one + ", " + one + ")", x -> x.rests(one, one), -1);
            CHECK.leavesAll(Scenes::busy, "rest(" + one + ", " + one + ", 0)", x -> x.rest(one, one, 0), -1);
        }
        CHECK.due("the last HORSE, who FELL", Scenes.busy().rests(0, 2) >= 0, true);
    }

    private static void restNumbers() {
        CHECK.about("23: -2: there are no so many");
        Supplier<TroughTreaty> four = () -> Check.told("horse h 0 0 15 7;horse k 3 0 15 7;");
        int[] wanted = {0, 1, 10, 11};
        for (int k = 0; k < 4; k++) {
            int asked = k;
            CHECK.leavesAll(four, "rest(0, 1, " + k + ")", x -> x.rest(0, 1, asked), wanted[k]);
        }
        CHECK.leavesAll(four, "rest(0, 1, 4)", x -> x.rest(0, 1, 4), -2);
        CHECK.leavesAll(four, "rest(0, 1, MAX)", x -> x.rest(0, 1, MAX), -2);
        CHECK.about("23: NONE likewise, k is below 0");
        CHECK.leavesAll(four, "rest(0, 1, -1)", x -> x.rest(0, 1, -1), -1);
        CHECK.leavesAll(four, "rest(0, 1, MIN)", x -> x.rest(0, 1, MIN), -1);
        CHECK.leavesAll(four, "rest(0, 0, 4)", x -> x.rest(0, 0, 4), -1);
        CHECK.leavesAll(four, "rest(0, 2, 4)", x -> x.rest(0, 2, 4), -1);
    }

    private static void dryLeastTerms() {
        CHECK.about("24: DRY (n 0 .. 6) in least terms");
        long[][] wanted = {{0, 1, 1, 1}, {100, 1, 0, 1}, {100, 6, 0, 1}, {100, 0, 1, 1}, {50, 0, 1, 1}, {0, 6, 1, 1}, {50, 6, 1, 64},
            {1, 1, 99, 100}, {1, 6, 941480149401L, 1000000000000L}, {99, 6, 1, 1000000000000L}, {2, 1, 49, 50}, {60, 2, 4, 25}};
        for (long[] row : wanted) {
            TroughTreaty x = Check.told("rain " + row[0] + ";");
            CHECK.due("rain " + row[0] + ", n " + row[1] + ": above", x.staysDry((int) row[1], 0), row[2]);
            CHECK.due("rain " + row[0] + ", n " + row[1] + ": below", x.staysDry((int) row[1], 1), row[3]);
        }
    }

    private static void dryRefused() {
        CHECK.about("24: NONE: no such ones");
        for (int bad : new int[] {-1, 7, MIN, MAX}) {
            CHECK.leavesAll(Scenes::busy, "staysDry(" + bad + ", 0)", x -> x.staysDry(bad, 0), -1);
            CHECK.leavesAll(Scenes::busy, "staysDry(" + bad + ", 1)", x -> x.staysDry(bad, 1), -1);
        }
        for (int bad : new int[] {-1, 2, MIN, MAX}) {
            CHECK.leavesAll(Scenes::busy, "staysDry(1, " + bad + ")", x -> x.staysDry(1, bad), -1);
        }
        CHECK.leavesAll(Scenes::busy, "staysDry(6, 0)", x -> x.staysDry(6, 0), 729);
        CHECK.leavesAll(Scenes::busy, "staysDry(6, 1)", x -> x.staysDry(6, 1), 15625);
    }

    private static void peaceTalkedNeverFought() {
        CHECK.about("PEACE: whether HORSES of them TALKED and never FOUGHT");
        TroughTreaty x = Check.told("trough a 5 2 0;horse h 0 5 9 1;horse k 3 5 0 1;horse m 1 9 0 1;horse n 2 9 0 1;law dry 0;law gulp 1;law fight 0;");
        CHECK.due("not yet", x.peace(0, 3), 0);
        x.go(1);
        CHECK.due("TALKED", x.peace(0, 3), 1);
        CHECK.due("TALKED", x.peace(3, 0), 1);
        CHECK.due("FOUGHT", x.peace(1, 2), 0);
        CHECK.due("never met", x.peace(0, 1), 0);
        x.go(1);
        CHECK.due("TALKED twice", x.peace(0, 3), 1);
        x.go(1);
        CHECK.due("FOUGHT at last", x.peace(0, 3), 0);
        x.fill(0, 9);
        x.go(1);
        CHECK.due("it was war once", x.peace(0, 3), 0);
        CHECK.due("TALKED behind it", x.count(7), 3);
        CHECK.about("25: PEACE of two SIDES: of these two alone");
        for (int one = 0; one < 4; one++) {
            for (int other = 0; other < 4; other++) {
                if (one != other) {
                    ofThese(one, other);
                }
            }
        }
    }

    /** Two TALK in HOUR 0: they have PEACE, and no other two. */
    private static void ofThese(int one, int other) {
        TroughTreaty x = Check.told("trough a 5 1 0;horse h " + one + " 5 9 1;horse k " + other + " 5 0 1;law dry 0;");
        x.go(1);
        for (int a = 0; a < 4; a++) {
            for (int b = 0; b < 4; b++) {
                boolean these = a == one && b == other || a == other && b == one;
                CHECK.due(one + ", " + other + ": peace(" + a + ", " + b + ")", x.peace(a, b), a == b ? -1 : these ? 1 : 0);
            }
        }
        // A FIGHT of two other SIDES leaves it.
        int third = thirdOf(one, other);
        TroughTreaty y = Check.told("trough a 5 1 0;horse h " + one + " 5 9 1;horse k " + other + " 5 0 1;"
                + "horse m " + third + " 7 0 1;horse n " + one + " 7 0 1;law dry 0;");
        y.go(1);
        CHECK.due("peace(" + one + ", " + other + ")", y.peace(one, other), 1);
        CHECK.due("peace(" + one + ", " + third + ")", y.peace(one, third), 0);
    }

    private static int thirdOf(int one, int other) {
        int third = 0;
        while (third == one || third == other) {
            third++;
        }
        return third;
    }

    private static void peaceRefused() {
        CHECK.about("25: of two SIDES 0 .. 3 (1, 0); NONE: no such ones, alike");
        for (int bad : new int[] {-1, 4, MIN, MAX}) {
            CHECK.leavesAll(Scenes::busy, "peace(" + bad + ", 0)", x -> x.peace(bad, 0), -1);
            CHECK.leavesAll(Scenes::busy, "peace(0, " + bad + ")", x -> x.peace(0, bad), -1);
        }
        for (int side = 0; side < 4; side++) {
            int one = side;
            CHECK.leavesAll(Scenes::busy, "peace(" + one + ", " + one + ")", x -> x.peace(one, one), -1);
            CHECK.due("no HORSES", new TroughTreaty().peace(side, 3 - side), 0);
        }
    }

    private static void thirstiestOf() {
        CHECK.about("26: the HORSE that is ON with most THIRST, the first of several");
        CHECK.due("one", Check.told("horse h 0 0 0 1;").thirstiest(), 0);
        CHECK.due("the first of two", Check.told("horse h 0 0 5 1;horse k 0 0 5 1;").thirstiest(), 0);
        CHECK.due("1 more", Check.told("horse h 0 0 5 1;horse k 0 0 6 1;").thirstiest(), 1);
        CHECK.due("1 less", Check.told("horse h 0 0 5 1;horse k 0 0 4 1;").thirstiest(), 0);
        CHECK.leavesAll(Scenes::busy, "thirstiest(), though m has 100", x -> x.thirstiest(), 0);
        CHECK.about("26: -2: none is");
        CHECK.leavesAll(Scenes::fallen, "thirstiest()", x -> x.thirstiest(), -2);
        CHECK.leavesAll(TroughTreaty::new, "thirstiest()", x -> x.thirstiest(), -2);
    }

    private static void driestOf() {
        CHECK.about("27: the TROUGH with least WATER, the first of several");
        CHECK.due("one that is full", Check.told("trough a 0 99 0;").driest(), 0);
        CHECK.due("the first of two", Check.told("trough a 0 9 0;trough b 1 9 0;").driest(), 0);
        CHECK.due("1 less", Check.told("trough a 0 9 0;trough b 1 8 0;").driest(), 1);
        CHECK.due("1 more", Check.told("trough a 0 9 0;trough b 1 10 0;").driest(), 0);
        CHECK.leavesAll(Scenes::busy, "driest()", x -> x.driest(), 0);
        CHECK.about("27: NONE: there are none");
        CHECK.leavesAll(TroughTreaty::new, "driest()", x -> x.driest(), -1);
        CHECK.due("HORSES alone", Check.told("horse h 0 0 0 1;").driest(), -1);
    }

    private static void nearestOf() {
        CHECK.about("28: the TROUGH nearest to a HORSE, the first of several");
        CHECK.due("there", Check.told("trough a 4 0 0;trough b 5 0 0;horse h 0 5 0 1;").nearest(0), 1);
        CHECK.due("the first of two", Check.told("trough b 6 0 0;trough a 4 0 0;horse h 0 5 0 1;").nearest(0), 0);
        CHECK.due("1 nearer", Check.told("trough b 7 0 0;trough a 4 0 0;horse h 0 5 0 1;").nearest(0), 1);
        CHECK.due("60 off", Check.told("road 60;trough a 60 0 0;horse h 0 0 0 1;").nearest(0), 0);
        CHECK.due("one that FELL", Scenes.busy().nearest(2), 1);
        CHECK.about("28: -2: there are none");
        CHECK.leavesAll(() -> Check.told("horse h 0 5 0 1;"), "nearest(0)", x -> x.nearest(0), -2);
        CHECK.about("28: NONE: no such HORSE");
        for (int bad : new int[] {-1, 3, 6, MIN, MAX}) {
            CHECK.leavesAll(Scenes::busy, "nearest(" + bad + ")", x -> x.nearest(bad), -1);
        }
        CHECK.due("neither", new TroughTreaty().nearest(0), -1);
        CHECK.leavesAll(Scenes::busy, "nearest(1)", x -> x.nearest(1), 1);
    }

    private static void gather(String text, int trough, int hours) {
        CHECK.due(text + " TROUGH", Check.told(text).gather(0), trough);
        CHECK.due(text + " HOURS", Check.told(text).gather(1), hours);
    }

    private static void gatherOf() {
        CHECK.about("GATHER: the HORSE that needs most HOURS by its PACE needs fewest, the first of several");
        gather("trough a 5 0 0;horse h 0 5 0 1;", 0, 0);
        gather("trough a 5 0 0;horse h 0 14 0 9;", 0, 1);
        gather("trough a 5 0 0;horse h 0 15 0 9;", 0, 2);
        gather("trough a 5 0 0;trough b 7 0 0;horse h 0 6 0 1;", 0, 1);
        gather("trough a 5 0 0;trough b 8 0 0;horse h 0 7 0 1;", 1, 1);
        gather("trough a 5 0 0;trough b 8 0 0;horse h 0 7 0 2;", 0, 1);
        gather("road 60;trough a 0 0 0;trough b 60 0 0;horse h 0 0 0 1;horse k 0 60 0 9;", 0, 7);
        gather("road 60;trough a 0 0 0;trough b 60 0 0;horse h 0 0 0 9;horse k 0 60 0 1;", 1, 7);
        gather("road 60;trough a 60 0 0;horse h 0 0 0 1;", 0, 60);
        CHECK.about("GATHER: of all that are ON");
        TroughTreaty x = Check.told("road 60;trough a 0 0 0;trough b 60 0 0;horse h 0 0 0 1;horse k 0 60 98 1;horse m 0 60 0 9;");
        x.lead(1, 59);
        CHECK.due("k is ON", x.gather(0), 0);
        CHECK.due("k is ON", x.gather(1), 59);
        x.go(2);
        CHECK.due("k FELL", x.gather(0), 0);
        CHECK.due("k FELL", x.gather(1), 7);
    }

    private static void gatherRefused() {
        CHECK.about("30: -2: there are none, no HORSE is ON");
        for (int what = 0; what < 2; what++) {
            int asked = what;
            CHECK.leavesAll(Scenes::fallen, "gather(" + what + "), none is ON", x -> x.gather(asked), -2);
            CHECK.leavesAll(() -> Check.told("horse h 0 5 0 1;"), "gather(" + what + "), no TROUGHS", x -> x.gather(asked), -2);
            CHECK.leavesAll(() -> Check.told("trough h 5 0 1;"), "gather(" + what + "), no HORSES", x -> x.gather(asked), -2);
        }
        CHECK.about("30: NONE for another what");
        for (int bad : new int[] {-1, 2, MIN, MAX}) {
            CHECK.leavesAll(Scenes::busy, "gather(" + bad + ")", x -> x.gather(bad), -1);
            CHECK.leavesAll(Scenes::fallen, "gather(" + bad + ")", x -> x.gather(bad), -1);
        }
        CHECK.leavesAll(Scenes::busy, "gather(0), 4 HOURS to both", x -> x.gather(0), 0);
        CHECK.leavesAll(Scenes::busy, "gather(1)", x -> x.gather(1), 4);
    }

    private static void sidesOf() {
        CHECK.about("31: SIDES (bits) of which a HORSE is ON");
        CHECK.due("none", new TroughTreaty().sides(), 0);
        CHECK.due("SIDE 0", Check.told("horse h 0 0 0 1;").sides(), 1);
        CHECK.due("SIDE 3", Check.told("horse h 3 0 0 1;").sides(), 8);
        CHECK.due("all", Check.told("horse a 0 0 0 1;horse b 1 0 0 1;horse c 2 0 0 1;horse d 3 0 0 1;horse e 3 0 0 1;").sides(), 15);
        CHECK.leavesAll(Scenes::busy, "sides(), m FELL", x -> x.sides(), 3);
        CHECK.leavesAll(Scenes::fallen, "sides()", x -> x.sides(), 0);
    }

    private static void enemiesOf() {
        CHECK.about("32: HORSES (bits) that are ON, of unlike SIDE and at the PLACE of one that is ON");
        String six = "horse a 0 5 0 1;horse b 1 5 0 1;horse c 0 5 0 1;horse d 3 5 0 1;horse e 1 6 0 1;horse f 2 5 0 1;";
        int[] wanted = {42, 45, 42, 39, 0, 15};
        for (int i = 0; i < 6; i++) {
            CHECK.due("enemies(" + i + ")", Check.told(six).enemies(i), wanted[i]);
        }
        TroughTreaty x = Check.told("horse a 0 5 99 1;horse b 1 5 0 1;horse c 2 5 0 1;");
        x.go(1);
        CHECK.due("a FELL", x.enemies(1), 4);
        CHECK.about("32: (0: it FELL)");
        CHECK.due("a FELL", x.enemies(0), 0);
        CHECK.leavesAll(Scenes::fallen, "enemies(0)", y -> y.enemies(0), 0);
        CHECK.about("32: NONE: no such HORSE");
        for (int bad : new int[] {-1, 3, 6, MIN, MAX}) {
            CHECK.leavesAll(Scenes::busy, "enemies(" + bad + ")", y -> y.enemies(bad), -1);
        }
        CHECK.due("enemies(0) of none", new TroughTreaty().enemies(0), -1);
    }
}
