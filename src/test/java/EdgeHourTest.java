/** The boundaries that the document names of an HOUR, of laws and of numbers, a sentence each. */
public final class EdgeHourTest {
    private static final Check CHECK = new Check();
    private static final long ERROR = Long.MIN_VALUE;

    public static void main(String[] args) {
        lapsOfThisHour();
        lapsByTheirNumbers();
        paceNoFarther();
        dryWithin();
        gulpWithin();
        gulpNoMoreThan();
        thirstAndWaterThere();
        drinksByNumbers();
        onePlaceUnlikeSides();
        talkOrFight();
        fightWithin();
        falls();
        tenthHour();
        waterAtMost();
        belowRain();
        numbersByTroughs();
        bitsOfNumbers();
        asItGoes();
        namesWithout();
        namesAtTheirBounds();
        cutTowardsZero();
        divisionByZero();
        tenToTheTwelve();
        oneOrZero();
        CHECK.end();
    }

    private static TroughTreaty gone(String text, int hours) {
        TroughTreaty x = Check.told(text);
        x.go(hours);
        return x;
    }

    private static void lapsOfThisHour() {
        CHECK.about("(1) LAPS of this HOUR");
        for (int hour : new int[] {0, 1, 9, 98, 99}) {
            String text = "trough a 20 99 0;horse h 0 0 0 9;law dry 0;lap h a " + hour + ";";
            CHECK.due("ahead of HOUR " + hour, gone(text, hour).horse(0, 4), -2);
            CHECK.due("in HOUR " + hour, gone(text, hour + 1).horse(0, 4), 0);
            CHECK.due("it goes in that HOUR", gone(text, hour + 1).horse(0, 1), 9);
        }
        TroughTreaty x = gone("trough a 20 99 0;horse h 0 0 0 9;law dry 0;lap h a 0;", 100);
        x.lead(0, 3);
        x.go(100);
        CHECK.due("HOUR 100 isn't HOUR 0", x.horse(0, 4), -2);
    }

    private static void lapsByTheirNumbers() {
        CHECK.about("(1) LAPS of this HOUR, by their numbers");
        CHECK.due("the last one", gone("trough a 20 0 0;trough b 0 0 0;horse h 0 5 0 1;lap h a 0;lap h b 0;", 1).horse(0, 4), 1);
        CHECK.due("the last one", gone("trough a 20 0 0;trough b 0 0 0;horse h 0 5 0 1;lap h b 0;lap h a 0;", 1).horse(0, 4), 0);
        StringBuilder text = new StringBuilder("trough a 20 0 0;trough b 0 0 0;horse h 0 5 0 1;horse k 0 5 0 1;");
        text.append("lap h b 0;".repeat(11)).append("lap k a 0;");
        CHECK.due("the twelfth one", gone(text.toString(), 1).horse(1, 1), 6);
        CHECK.due("the eleventh one", gone(text.toString(), 1).horse(0, 1), 4);
    }

    private static void paceNoFarther() {
        CHECK.about("(2) goes towards its GOAL PACE places, no farther than there");
        for (int from : new int[] {1, 5, 8, 9, 10, 11, 12, 15, 19}) {
            for (int pace = 1; pace <= 9; pace++) {
                int there = from < 10 ? Math.min(10, from + pace) : Math.max(10, from - pace);
                String text = "trough a 10 0 0;horse h 0 " + from + " 0 " + pace + ";lap h a 0;";
                CHECK.due("from " + from + " by PACE " + pace, gone(text, 1).horse(0, 1), there);
            }
        }
        CHECK.due("to 0", gone("trough a 0 0 0;horse h 0 4 0 9;lap h a 0;", 1).horse(0, 1), 0);
        CHECK.due("to the LENGTH", gone("road 60;trough a 60 0 0;horse h 0 55 0 9;lap h a 0;", 1).horse(0, 1), 60);
        CHECK.due("there it stays", gone("trough a 10 0 0;horse h 0 10 0 9;lap h a 0;", 5).horse(0, 1), 10);
        CHECK.about("(2) if it has one");
        CHECK.due("it has none", gone("trough a 10 0 0;horse h 0 4 0 9;", 5).horse(0, 1), 4);
        CHECK.about("(2) that is ON");
        TroughTreaty x = gone("trough a 10 0 0;horse h 0 4 98 1;lap h a 0;", 9);
        CHECK.due("who FELL goes no more", x.horse(0, 1), 6);
        CHECK.due("who FELL thirsts no more", x.horse(0, 2), 100);
    }

    private static int thirst(String law) {
        return gone("horse h 0 5 0 1;" + law, 1).horse(0, 2);
    }

    private static void dryWithin() {
        CHECK.about("(2) E of dry (0 .. 99; 1 without, with an ERROR)");
        CHECK.due("-2", thirst("law dry 0 - 2;"), 0);
        CHECK.due("-1", thirst("law dry 0 - 1;"), 0);
        CHECK.due("0", thirst("law dry 0;"), 0);
        CHECK.due("2", thirst("law dry 2;"), 2);
        CHECK.due("98", thirst("law dry 98;"), 98);
        CHECK.due("99", thirst("law dry 99;"), 99);
        CHECK.due("100", thirst("law dry 100;"), 99);
        CHECK.due("9999", thirst("law dry 9999;"), 99);
        CHECK.due("10 to the 12", thirst("law dry 1000 * 1000 * 1000 * 1000;"), 99);
        CHECK.due("below 0 by so much", thirst("law dry 0 - 1000 * 1000 * 1000 * 1000;"), 0);
        CHECK.due("2 to the 32 and 5", thirst("law dry 4096 * 4096 * 256 + 5;"), 99);
        CHECK.due("without", thirst(""), 1);
        CHECK.due("an ERROR", thirst("law dry 5 / 0;"), 1);
        CHECK.due("an ERROR", thirst("law dry 1000 * 1000 * 1000 * 1000 + 1;"), 1);
    }

    private static int drank(int water, int thirst, String law) {
        return gone("trough a 5 " + water + " 0;horse h 0 5 " + thirst + " 1;law dry 0;" + law, 1).horse(0, 7);
    }

    private static void gulpWithin() {
        CHECK.about("(3) E of gulp (0 .. 99; 9 without, with an ERROR)");
        CHECK.due("-1", drank(99, 99, "law gulp 0 - 1;"), 0);
        CHECK.due("0", drank(99, 99, "law gulp 0;"), 0);
        CHECK.due("1", drank(99, 99, "law gulp 1;"), 1);
        CHECK.due("98", drank(99, 99, "law gulp 98;"), 98);
        CHECK.due("99", drank(99, 99, "law gulp 99;"), 99);
        CHECK.due("100", drank(99, 99, "law gulp 100;"), 99);
        CHECK.due("2 to the 32 and 5", drank(99, 99, "law gulp 4096 * 4096 * 256 + 5;"), 99);
        CHECK.due("without", drank(99, 99, ""), 9);
        CHECK.due("an ERROR", drank(99, 99, "law gulp 1 / 0;"), 9);
    }

    private static void gulpNoMoreThan() {
        CHECK.about("(3) no more than THIRST, than WATER: both are less by it");
        CHECK.due("THIRST 8", drank(99, 8, ""), 8);
        CHECK.due("THIRST 9", drank(99, 9, ""), 9);
        CHECK.due("THIRST 10", drank(99, 10, ""), 9);
        CHECK.due("WATER 8", drank(8, 99, ""), 8);
        CHECK.due("WATER 9", drank(9, 99, ""), 9);
        CHECK.due("WATER 10", drank(10, 99, ""), 9);
        CHECK.due("both less", drank(3, 2, ""), 2);
        CHECK.due("both less", drank(2, 3, ""), 2);
        TroughTreaty x = gone("trough a 5 20 0;horse h 0 5 30 1;law dry 0;", 1);
        CHECK.due("THIRST", x.horse(0, 2), 21);
        CHECK.due("WATER", x.trough(0, 1), 11);
        CHECK.due("DRUNK", x.count(10), 9);
    }

    private static void thirstAndWaterThere() {
        CHECK.about("(3) at the PLACE of a TROUGH, with THIRST and WATER there");
        CHECK.due("THIRST 0", drank(9, 0, ""), 0);
        CHECK.due("THIRST 1", drank(9, 1, ""), 1);
        CHECK.due("WATER 0", drank(0, 9, ""), 0);
        CHECK.due("WATER 1", drank(1, 9, ""), 1);
        CHECK.due("a PLACE ahead", gone("trough a 5 50 0;horse h 0 4 50 1;", 1).horse(0, 7), 0);
        CHECK.due("a PLACE behind", gone("trough a 5 50 0;horse h 0 6 50 1;", 1).horse(0, 7), 0);
        CHECK.due("at 0", gone("trough a 0 50 0;horse h 0 0 50 1;", 1).horse(0, 7), 9);
        CHECK.due("at the LENGTH", gone("road 60;trough a 60 50 0;horse h 0 60 50 1;", 1).horse(0, 7), 9);
        CHECK.due("where it comes in this HOUR", gone("trough a 9 50 0;horse h 0 0 50 9;lap h a 0;", 1).horse(0, 7), 9);
        CHECK.about("(3) each HORSE that is ON");
        TroughTreaty x = gone("trough a 5 0 0;horse h 0 5 99 1;", 1);
        x.fill(0, 50);
        x.go(1);
        CHECK.due("who FELL", x.horse(0, 7), 0);
        CHECK.due("its THIRST", x.horse(0, 2), 100);
        CHECK.due("WATER", x.trough(0, 1), 50);
    }

    private static void drinksByNumbers() {
        CHECK.about("(3) by numbers each HORSE");
        TroughTreaty x = gone("trough a 5 20 0;horse h 0 5 50 1;horse k 0 5 50 1;horse m 0 5 50 1;horse n 0 5 50 1;", 1);
        int[] drank = {9, 9, 2, 0};
        for (int i = 0; i < 4; i++) {
            CHECK.due("DRANK of " + i, x.horse(i, 7), drank[i]);
        }
        CHECK.due("WATER", x.trough(0, 1), 0);
        CHECK.about("7 how much it DRANK in the last HOUR");
        x.go(1);
        for (int i = 0; i < 4; i++) {
            CHECK.due("DRANK of " + i, x.horse(i, 7), 0);
        }
    }

    private static int fights(String horses) {
        return gone(horses + "law dry 0;", 1).count(6);
    }

    private static void onePlaceUnlikeSides() {
        CHECK.about("(4) each pair of HORSES that are ON, at one PLACE, of unlike SIDES");
        CHECK.due("two", fights("horse h 0 5 0 1;horse k 1 5 0 1;"), 1);
        CHECK.due("SIDES 0, 3", fights("horse h 0 5 0 1;horse k 3 5 0 1;"), 1);
        CHECK.due("like SIDES", fights("horse h 3 5 0 1;horse k 3 5 0 1;"), 0);
        CHECK.due("unlike PLACES", fights("horse h 0 5 0 1;horse k 1 6 0 1;"), 0);
        CHECK.due("six of two SIDES", fights("horse a 0 5 0 1;horse b 1 5 0 1;horse c 0 5 0 1;horse d 1 5 0 1;horse e 0 5 0 1;horse f 1 5 0 1;"), 9);
        CHECK.due("six of four SIDES", fights("horse a 0 5 0 1;horse b 1 5 0 1;horse c 2 5 0 1;horse d 3 5 0 1;horse e 0 5 0 1;horse f 1 5 0 1;"), 13);
        TroughTreaty x = gone("horse h 0 5 99 1;horse k 1 5 0 1;", 1);
        CHECK.due("who FALLS in (5) is ON in (4)", x.count(6), 1);
        x.go(1);
        CHECK.due("who FELL", x.count(6), 1);
    }

    private static void talkOrFight() {
        CHECK.about("(4) if one of both DRANK in this HOUR (more than 0), they TALK; else they FIGHT");
        String first = "trough a 5 9 0;horse h 0 5 9 1;horse k 1 5 0 1;law dry 0;law gulp ";
        String second = "trough a 5 9 0;horse k 1 5 0 1;horse h 0 5 9 1;law dry 0;law gulp ";
        for (String text : new String[] {first, second}) {
            CHECK.due("DRANK 1: TALKS", gone(text + "1;", 1).count(7), 1);
            CHECK.due("DRANK 1: FIGHTS", gone(text + "1;", 1).count(6), 0);
            CHECK.due("DRANK 0: TALKS", gone(text + "0;", 1).count(7), 0);
            CHECK.due("DRANK 0: FIGHTS", gone(text + "0;", 1).count(6), 1);
            CHECK.due("DRANK in the HOUR ahead", gone(text + "9 * (hour = 0);", 2).count(6), 1);
        }
        CHECK.due("both DRANK", gone("trough a 5 9 0;horse h 0 5 3 1;horse k 1 5 3 1;law dry 0;", 1).count(7), 1);
        TroughTreaty x = gone("trough a 5 1 0;horse h 0 5 3 1;horse k 1 5 0 1;horse m 2 5 0 1;law dry 0;", 1);
        CHECK.due("one of three DRANK: TALKS", x.count(7), 2);
        CHECK.due("one of three DRANK: FIGHTS", x.count(6), 1);
    }

    private static int hurt(String law) {
        return gone("horse h 0 5 0 1;horse k 1 5 0 1;" + law, 1).horse(1, 5);
    }

    private static void fightWithin() {
        CHECK.about("(4) HURT of each is more by E of fight of it (0 .. 99; 1 without, with an ERROR)");
        CHECK.due("-1", hurt("law fight 0 - 1;"), 0);
        CHECK.due("0", hurt("law fight 0;"), 0);
        CHECK.due("2", hurt("law fight 2;"), 2);
        CHECK.due("98", hurt("law fight 98;"), 98);
        CHECK.due("99", hurt("law fight 99;"), 99);
        CHECK.due("100", hurt("law fight 100;"), 99);
        CHECK.due("2 to the 32 and 5", hurt("law fight 4096 * 4096 * 256 + 5;"), 99);
        CHECK.due("without", hurt(""), 1);
        CHECK.due("an ERROR", hurt("law fight 1 / 0;"), 1);
        CHECK.due("without: the first of both", gone("horse h 0 5 0 1;horse k 1 5 0 1;", 1).horse(0, 5), 1);
        CHECK.due("an ERROR: the first of both", gone("horse h 0 5 0 1;horse k 1 5 0 1;law fight 1 / 0;", 1).horse(0, 5), 1);
        TroughTreaty x = gone("horse h 0 5 0 1;horse k 3 5 0 1;law fight side;", 1);
        CHECK.due("of it: SIDE 0", x.horse(0, 5), 0);
        CHECK.due("of it: SIDE 3", x.horse(1, 5), 3);
        // The most HURT there can be: 99 and five FIGHTS of 99 more.
        String six = "horse a 0 5 0 1;horse b 1 5 0 1;horse c 1 5 0 1;horse d 1 5 0 1;horse e 1 5 0 1;horse f 1 5 0 1;";
        CHECK.due("five FIGHTS", gone(six + "law fight 99;", 1).horse(0, 5), 495);
    }

    private static void falls() {
        CHECK.about("(5) who is ON with THIRST 100 at least FALLS");
        CHECK.due("99", gone("horse h 0 5 0 1;law dry 99;", 1).horse(0, 6), 1);
        CHECK.due("100", gone("horse h 0 5 1 1;law dry 99;", 1).horse(0, 6), 0);
        CHECK.due("198", gone("horse h 0 5 99 1;law dry 99;", 1).horse(0, 6), 0);
        CHECK.due("100, and it drinks 1", gone("trough a 5 1 0;horse h 0 5 99 1;", 1).horse(0, 6), 1);
        CHECK.about("(5) who is ON with HURT 100 at least FALLS");
        String two = "horse h 0 5 0 1;horse k 1 5 0 1;law dry 0;law fight ";
        CHECK.due("99", gone(two + "33;", 3).horse(0, 6), 1);
        CHECK.due("100", gone(two + "50;", 2).horse(0, 6), 0);
        CHECK.due("100: the other one", gone(two + "50;", 2).horse(1, 6), 0);
        CHECK.due("198", gone(two + "99;", 2).horse(0, 6), 0);
    }

    private static void tenthHour() {
        CHECK.about("(6) in each tenth HOUR (HOUR modulo 10 is 9)");
        String text = "trough a 5 10 3;rain 100;";
        int[] hours = {8, 9, 10, 11, 19, 20, 21, 30, 100};
        int[] water = {10, 10, 13, 13, 13, 16, 16, 19, 40};
        for (int i = 0; i < hours.length; i++) {
            CHECK.due("behind " + hours[i] + " HOURS", gone(text, hours[i]).trough(0, 1), water[i]);
        }
        CHECK.due("behind drinking", gone("trough a 5 0 3;horse h 0 5 50 1;rain 100;", 10).horse(0, 7), 0);
    }

    private static void waterAtMost() {
        CHECK.about("(6) WATER is more by FILL, 99 at most");
        CHECK.due("FILL 0", gone("trough a 5 10 0;rain 100;", 10).trough(0, 1), 10);
        CHECK.due("90 and 8", gone("trough a 5 90 8;rain 100;", 10).trough(0, 1), 98);
        CHECK.due("90 and 9", gone("trough a 5 90 9;rain 100;", 10).trough(0, 1), 99);
        CHECK.due("91 and 9", gone("trough a 5 91 9;rain 100;", 10).trough(0, 1), 99);
        CHECK.due("99 and 9", gone("trough a 5 99 9;rain 100;", 10).trough(0, 1), 99);
        CHECK.due("the sixth TROUGH", gone("trough a 0 0 0;trough b 1 0 1;trough c 2 0 2;trough d 3 0 3;trough e 4 0 4;trough f 5 0 5;rain 100;", 10)
                .count(9), 15);
    }

    /** The first numbers of a seed by their rule in the plainest form. */
    private static int[] numbers(long seed, int many) {
        int[] all = new int[many];
        long last = seed;
        for (int i = 0; i < many; i++) {
            last = (last * 1103515245L + 12345L) % (1L << 31);
            all[i] = (int) (last / 65536 % 100);
        }
        return all;
    }

    private static void belowRain() {
        CHECK.about("(6) if a number modulo 100 is below rain");
        int tried = 0;
        boolean[] met = new boolean[100];
        for (int seed = 0; seed < 5000 && tried < 100; seed++) {
            int number = numbers(seed, 1)[0];
            if (!met[number]) {
                String text = "trough a 5 0 1;seed " + seed + ";rain ";
                CHECK.due(number + ": as much", gone(text + number + ";", 10).trough(0, 1), 0);
                CHECK.due(number + ": below", gone(text + (number + 1) + ";", 10).trough(0, 1), 1);
                met[number] = true;
                tried++;
            }
        }
        CHECK.due("each number modulo 100", tried, 100);
        CHECK.about("(6) rain is 0: never; at 100 always");
        for (int seed = 0; seed < 100; seed += 7) {
            CHECK.due("0", gone("trough a 5 0 1;rain 0;seed " + seed + ";", 200).trough(0, 1), 0);
            CHECK.due("100", gone("trough a 5 0 1;rain 100;seed " + seed + ";", 200).trough(0, 1), 20);
        }
    }

    private static void numbersByTroughs() {
        CHECK.about("(6) by numbers each TROUGH");
        int[] numbers = numbers(4711, 12);
        TroughTreaty x = Check.told("trough a 0 0 1;trough b 1 0 1;trough c 2 0 0;trough d 3 99 1;trough e 4 0 1;trough f 5 0 1;seed 4711;rain 45;");
        int[] water = {0, 0, 0, 99, 0, 0};
        for (int hour = 0; hour < 2; hour++) {
            x.go(10);
            for (int i = 0; i < 6; i++) {
                boolean rains = numbers[hour * 6 + i] < 45;
                water[i] = Math.min(99, water[i] + (rains && i != 2 ? 1 : 0));
                CHECK.due("TROUGH " + i, x.trough(i, 1), water[i]);
            }
        }
    }

    private static void bitsOfNumbers() {
        CHECK.about("Numbers, without what is above 31 bits, by 65536");
        for (int seed : new int[] {0, 1, 2, 65535, 65536, 99999}) {
            int[] numbers = numbers(seed, 20);
            TroughTreaty x = Check.told("trough a 5 0 1;rain 50;seed " + seed + ";");
            int water = 0;
            for (int i = 0; i < 20; i++) {
                x.go(10);
                water += numbers[i] < 50 ? 1 : 0;
                CHECK.due("seed " + seed, x.trough(0, 1), water);
            }
        }
    }

    private static void asItGoes() {
        CHECK.about("AS IT GOES: it rains, if rain is 50 at least");
        int[] rain = {0, 1, 49, 50, 51, 99, 100};
        for (int odds : rain) {
            TroughTreaty x = Check.told("trough a 5 0 1;seed 3;rain " + odds + ";");
            CHECK.due("rain " + odds, x.ahead(10, 3, 0), odds >= 50 ? 1 : 0);
            CHECK.due("rain " + odds + " for long", x.ahead(200, 3, 0), odds >= 50 ? 20 : 0);
        }
        CHECK.about("AS IT GOES: without numbers");
        for (int seed = 0; seed < 200; seed++) {
            CHECK.due("rain 49", Check.told("trough a 5 0 1;rain 49;seed " + seed + ";").ahead(200, 3, 0), 0);
            CHECK.due("rain 50", Check.told("trough a 5 0 1;rain 50;seed " + seed + ";").ahead(200, 3, 0), 20);
        }
    }

    private static void namesWithout() {
        String laws = "law dry water;law gulp far;law fight hurt * 100 + hour;";
        CHECK.about("water: 0, if there is none");
        TroughTreaty x = Check.told("trough a 5 7 0;horse h 0 4 0 1;horse k 0 5 0 1;horse m 0 6 0 1;" + laws);
        CHECK.due("a PLACE ahead", x.law(0, 0), 0);
        CHECK.due("there", x.law(0, 1), 7);
        CHECK.due("a PLACE behind", x.law(0, 2), 0);
        CHECK.about("far: 0, if it has none");
        CHECK.due("none", x.law(1, 0), 0);
        x.send(0, 0);
        x.send(1, 0);
        x.send(2, 0);
        CHECK.due("1 to go", x.law(1, 0), 1);
        CHECK.due("there", x.law(1, 1), 0);
        CHECK.due("1 to go", x.law(1, 2), 1);
        x.lead(0, 0);
        CHECK.due("none any more", x.law(1, 0), 0);
    }

    private static void namesAtTheirBounds() {
        CHECK.about("NAMES, of the HORSE");
        TroughTreaty x = Check.told("road 60;trough a 60 99 0;horse h 3 0 99 9;horse k 0 60 0 1;law dry thirst * 100 + pace * 10 + side;"
                + "law gulp water * 100 + far;law fight hour;");
        CHECK.due("the most: thirst, pace, side", x.law(0, 0), 9993);
        CHECK.due("the least: thirst, pace, side", x.law(0, 1), 10);
        CHECK.due("water", x.law(1, 1), 9900);
        x.send(0, 0);
        CHECK.due("far", x.law(1, 0), 60);
        CHECK.due("hour 0", x.law(2, 0), 0);
        for (int i = 0; i < 45; i++) {
            x.go(200);
        }
        CHECK.due("hour 9000", x.law(2, 0), 9000);
        Check.text(x, "horse h 0 5 0 1;horse k 1 5 0 1;law fight 33;law dry 100 * hurt + hour;");
        CHECK.due("hurt 0", x.law(0, 0), 0);
        x.go(3);
        CHECK.due("hurt 99", x.law(0, 0), 9903);
        Check.text(x, "horse h 0 5 99 1;law dry 99;law gulp thirst;");
        x.go(1);
        CHECK.due("thirst of one that FELL", x.law(1, 0), 198);
    }

    private static void worth(String e, long want) {
        CHECK.due(e, Check.told("horse h 0 5 0 1;law gulp " + e + ";").law(1, 0), want);
    }

    private static void cutTowardsZero() {
        CHECK.about("/ is cut towards 0");
        worth("7 / 2", 3);
        worth("(0 - 7) / 2", -3);
        worth("7 / (0 - 2)", -3);
        worth("(0 - 7) / (0 - 2)", 3);
        worth("1 / 2", 0);
        worth("(0 - 1) / 2", 0);
        worth("6 / 2", 3);
        worth("(0 - 6) / 2", -3);
        worth("0 / 5", 0);
    }

    private static void divisionByZero() {
        CHECK.about("ERROR: / by 0");
        worth("5 / 0", ERROR);
        worth("0 / 0", ERROR);
        worth("5 / (3 - 3)", ERROR);
        worth("5 / thirst", ERROR);
        worth("5 / 1", 5);
        worth("5 / (0 - 1)", -5);
        worth("5 / (thirst - 1)", -5);
        CHECK.about("both sides are worked out");
        worth("0 and 5 / 0", ERROR);
        worth("1 or 5 / 0", ERROR);
        worth("5 / 0 and 0", ERROR);
        worth("5 / 0 or 1", ERROR);
        worth("0 * (5 / 0)", ERROR);
        worth("not 5 / 0", ERROR);
        worth("5 / 0 = 5 / 0", ERROR);
    }

    private static void tenToTheTwelve() {
        CHECK.about("ERROR: a value above 10 to the 12 or below 0 by more than that");
        String most = "1000 * 1000 * 1000 * 1000";
        worth(most, 1000000000000L);
        worth(most + " + 1", ERROR);
        worth("1 + " + most, ERROR);
        worth(most + " - 1 + 1", 1000000000000L);
        worth(most + " - (0 - 1)", ERROR);
        worth("0 - " + most, -1000000000000L);
        worth("0 - " + most + " - 1", ERROR);
        worth("0 - " + most + " + 1", -999999999999L);
        worth("0 - 1 - " + most, ERROR);
        worth(most + " * 1", 1000000000000L);
        worth(most + " * (0 - 1)", -1000000000000L);
        worth("(0 - 1) * (" + most + ")", -1000000000000L);
        worth("(" + most + ") / (0 - 1)", -1000000000000L);
        worth(most + " * 2", ERROR);
        worth("2 * (" + most + ")", ERROR);
        worth("(" + most + ") * (0 - 2)", ERROR);
        worth("(0 - " + most + ") * 2", ERROR);
        // Each product leaves the longs, and the one behind it would be small again.
        worth("(" + most + ") * (" + most + ")", ERROR);
        worth("(" + most + ") * (" + most + ") * 0", ERROR);
        worth("(" + most + ") * (0 - " + most + ")", ERROR);
        worth("(" + most + " + 1) / 1000", ERROR);
        worth("(" + most + " + 1) - 5", ERROR);
        worth("(" + most + " + 1) < 5", ERROR);
        worth("999 * 1001 * 999 * 1001", 999998000001L);
        worth("1001 * 999 * 1001 * 1000", ERROR);
        worth("1001 * 999 * 1000 * 1000", 999999000000L);
    }

    private static void oneOrZero() {
        CHECK.about("comparisons, and, or, not are 1 or 0 (what isn't 0 is as 1)");
        worth("4 < 5", 1);
        worth("5 < 5", 0);
        worth("5 <= 5", 1);
        worth("6 <= 5", 0);
        worth("5 = 5", 1);
        worth("5 = 6", 0);
        worth("5 <> 6", 1);
        worth("5 <> 5", 0);
        worth("5 >= 5", 1);
        worth("4 >= 5", 0);
        worth("6 > 5", 1);
        worth("5 > 5", 0);
        worth("2 and 4", 1);
        worth("(0 - 1) and (0 - 1)", 1);
        worth("2 and 0", 0);
        worth("0 and 2", 0);
        worth("0 or 0", 0);
        worth("0 or 2", 1);
        worth("(0 - 2) or 0", 1);
        worth("not 0", 1);
        worth("not 1", 0);
        worth("not 2", 0);
        worth("not (0 - 1)", 0);
        worth("(not not 7) + (2 and 4)", 2);
        worth("1 and not 0", 1);
        worth("1 and not 1", 0);
        worth("5 + (not 0)", 6);
        worth("5 * (6 - (not 7))", 30);
        CHECK.about("E: A { or A }. A: B { and B }. B: not B | C. C: S [ sign S ]. S: T { + T }. T: P { * P }");
        worth("1 or 0 and 0", 1);
        worth("(1 or 0) and 0", 0);
        worth("0 and 0 or 1", 1);
        worth("0 and (0 or 1)", 0);
        worth("not 0 and 0", 0);
        worth("not (0 and 0)", 1);
        worth("not 1 = 2", 1);
        worth("(not 1) = 2", 0);
        worth("1 + 1 = 2", 1);
        worth("1 + (1 = 2)", 1);
        worth("2 + 3 * 4", 14);
        worth("(2 + 3) * 4", 20);
        worth("9 - 4 - 3", 2);
        worth("9 - (4 - 3)", 8);
        worth("100 / 5 / 2", 10);
        worth("100 / (5 / 2)", 50);
        worth("7 / 2 * 2", 6);
        worth("7 * 2 / 2", 7);
    }
}
