/** The boundaries that promises 13 to 17, 29, 33, 38 and 39 name, a sentence each. */
public final class EdgeAheadTest {
    private static final Check CHECK = new Check();
    private static final int MIN = Integer.MIN_VALUE;
    private static final int MAX = Integer.MAX_VALUE;

    public static void main(String[] args) {
        aheadWithin();
        aheadNotLookedAt();
        aheadNoSuchOnes();
        fallsByHours();
        fallsRefused();
        nextFightByHours();
        nextFightFirstOfSeveral();
        nextFightRefused();
        sendInZeroToTwenty();
        sendInFortyHours();
        sendInAsItGoes();
        sendInAheadOfLaps();
        sendInFirstOfSeveral();
        sendInRefused();
        pumpHours();
        pumpFewestAndLeast();
        pumpByNone();
        pumpRefused();
        meetByHours();
        meetBothOn();
        meetRefused();
        runsDryByHours();
        runsDryRefused();
        chanceWithin();
        chanceTenTimes();
        chanceRefused();
        triedEach();
        triedHours();
        triedRefused();
        CHECK.end();
    }

    private static void aheadWithin() {
        CHECK.about("13: AHEAD (n 0 .. 200)");
        TroughTreaty x = Check.told("trough a 5 10 1;horse h 0 5 0 1;horse k 1 5 0 1;rain 100;law dry 0;law fight 0;");
        CHECK.due("n 0: FIGHTS", x.ahead(0, 0, 0), 0);
        CHECK.due("n 1: FIGHTS", x.ahead(1, 0, 0), 1);
        CHECK.due("n 200: FIGHTS", x.ahead(200, 0, 0), 200);
        CHECK.due("n 0: WATER", x.ahead(0, 3, 0), 10);
        CHECK.due("n 200: WATER", x.ahead(200, 3, 0), 30);
        CHECK.due("n 0: ON", x.ahead(0, 4, 0), 2);
        CHECK.due("n -1", x.ahead(-1, 0, 0), -1);
        CHECK.due("n 201", x.ahead(201, 0, 0), -1);
        x.go(5);
        CHECK.due("FIGHTS more", x.ahead(3, 0, 0), 3);
        TroughTreaty talks = Check.told("trough a 5 99 0;horse h 0 5 50 1;horse k 1 5 0 1;law dry side = 0;law gulp 1;");
        talks.go(2);
        CHECK.due("TALKS more", talks.ahead(7, 1, 0), 7);
        CHECK.due("THIRST then", talks.ahead(7, 2, 0), 50);
        CHECK.due("n 0: TALKS more", talks.ahead(0, 1, 0), 0);
        for (int what = 0; what <= 4; what++) {
            int asked = what;
            CHECK.leavesAll(Scenes::busy, "ahead(200, " + what + ", 0)", y -> y.ahead(200, asked, 0) >= 0 ? 1 : 0, 1);
        }
    }

    private static void aheadNotLookedAt() {
        CHECK.about("13: of 0, 1, 4 i isn't looked at");
        for (int i : new int[] {-1, 3, MIN, MAX}) {
            CHECK.due("FIGHTS", Scenes.busy().ahead(5, 0, i), Scenes.busy().ahead(5, 0, 0));
            CHECK.due("TALKS", Scenes.busy().ahead(5, 1, i), Scenes.busy().ahead(5, 1, 0));
            CHECK.due("ON", Scenes.busy().ahead(5, 4, i), 2);
            CHECK.due("FIGHTS without LINES", new TroughTreaty().ahead(5, 0, i), 0);
            CHECK.due("TALKS without LINES", new TroughTreaty().ahead(5, 1, i), 0);
            CHECK.due("ON without LINES", new TroughTreaty().ahead(5, 4, i), 0);
        }
    }

    private static void aheadNoSuchOnes() {
        CHECK.about("13: NONE: no such ones");
        for (int n : new int[] {-1, 201, MIN, MAX}) {
            for (int what = 0; what <= 4; what++) {
                int asked = what;
                CHECK.leavesAll(Scenes::busy, "ahead(" + n + ", " + what + ", 0)", x -> x.ahead(n, asked, 0), -1);
            }
        }
        for (int bad : new int[] {-1, 5, MIN, MAX}) {
            CHECK.leavesAll(Scenes::busy, "ahead(1, " + bad + ", 0)", x -> x.ahead(1, bad, 0), -1);
        }
        for (int bad : new int[] {-1, 3, MIN, MAX}) {
            CHECK.leavesAll(Scenes::busy, "ahead(1, 2, " + bad + ")", x -> x.ahead(1, 2, bad), -1);
        }
        for (int bad : new int[] {-1, 2, MIN, MAX}) {
            CHECK.leavesAll(Scenes::busy, "ahead(1, 3, " + bad + ")", x -> x.ahead(1, 3, bad), -1);
        }
        CHECK.due("the last HORSE, who FELL", Scenes.busy().ahead(1, 2, 2), 100);
        CHECK.due("the last TROUGH", Scenes.busy().ahead(1, 3, 1), 20);
    }

    /** It FALLS in this HOUR. */
    private static TroughTreaty fallsIn(int hour) {
        return Check.told("horse g 0 5 0 1;horse h 0 5 1 1;law dry 99 * (hour = " + hour + ");");
    }

    private static void fallsByHours() {
        CHECK.about("14: in how many HOURS as it goes (1: this one)");
        CHECK.due("HOUR 0", fallsIn(0).falls(1), 1);
        CHECK.due("HOUR 1", fallsIn(1).falls(1), 2);
        CHECK.due("another one", fallsIn(0).falls(0), -2);
        CHECK.about("14: 199 at most; -2: not by then");
        CHECK.due("HOUR 197", fallsIn(197).falls(1), 198);
        CHECK.due("HOUR 198", fallsIn(198).falls(1), 199);
        CHECK.due("HOUR 199", fallsIn(199).falls(1), -2);
        CHECK.due("HOUR 200", fallsIn(200).falls(1), -2);
        TroughTreaty x = fallsIn(199);
        x.go(1);
        CHECK.due("199 from HOUR 1 on", x.falls(1), 199);
        CHECK.about("14: (0: it did)");
        CHECK.due("FELL", Scenes.busy().falls(2), 0);
        TroughTreaty one = fallsIn(0);
        one.go(1);
        CHECK.due("FELL in HOUR 0", one.falls(1), 0);
        CHECK.leavesAll(Scenes::busy, "falls(0)", y -> y.falls(0) > 0 ? 1 : 0, 1);
    }

    private static void fallsRefused() {
        CHECK.about("14: NONE: no such HORSE");
        for (int bad : new int[] {-1, 3, 6, MIN, MAX}) {
            CHECK.leavesAll(Scenes::busy, "falls(" + bad + ")", x -> x.falls(bad), -1);
        }
        CHECK.due("falls(0) of none", new TroughTreaty().falls(0), -1);
    }

    /** They TALK up to this HOUR and FIGHT from it on, at 7. */
    private static TroughTreaty fightIn(int hour) {
        return Check.told("trough a 7 99 9;horse h 0 7 9 1;horse k 1 7 0 1;rain 100;"
                + "law gulp (hour < " + hour + ") * (side = 0);law dry side = 0;law fight 0;");
    }

    private static void nextFightByHours() {
        CHECK.about("15: in how many HOURS as it goes (1: this one)");
        CHECK.due("HOUR 0", fightIn(0).nextFight(0), 1);
        CHECK.due("HOUR 1", fightIn(1).nextFight(0), 2);
        CHECK.about("15: 199 at most; -2: not by then");
        int[] hours = {197, 198, 199, 200};
        int[] wanted = {198, 199, -2, -2};
        for (int i = 0; i < hours.length; i++) {
            CHECK.due("HOUR " + hours[i], fightIn(hours[i]).nextFight(0), wanted[i]);
            CHECK.due("HOUR " + hours[i] + ", its PLACE", fightIn(hours[i]).nextFight(1), wanted[i] < 0 ? -2 : 7);
        }
        CHECK.due("no HORSES", new TroughTreaty().nextFight(0), -2);
        CHECK.due("no HORSES", new TroughTreaty().nextFight(1), -2);
        CHECK.due("none is ON", Scenes.fallen().nextFight(0), -2);
        CHECK.due("at PLACE 0", Check.told("horse h 0 0 0 1;horse k 1 0 0 1;").nextFight(1), 0);
        CHECK.due("at PLACE 60", Check.told("road 60;horse h 0 60 0 1;horse k 1 60 0 1;").nextFight(1), 60);
        // h goes by 7 to 9, where k was led.
        CHECK.leavesAll(Scenes::busy, "nextFight(0)", x -> x.nextFight(0), 2);
        CHECK.leavesAll(Scenes::busy, "nextFight(1)", x -> x.nextFight(1), 9);
        TroughTreaty apart = Check.told("horse h 0 5 0 1;horse k 1 5 0 1;");
        apart.go(5);
        apart.lead(0, 6);
        CHECK.due("FIGHTS so far don't count", apart.nextFight(0), -2);
    }

    private static void nextFightFirstOfSeveral() {
        CHECK.about("15: at which PLACE, the first of several by pairs");
        CHECK.due("a and d ahead of b and c", Check.told("horse a 0 9 0 1;horse b 0 5 0 1;horse c 1 5 0 1;horse d 1 9 0 1;").nextFight(1), 9);
        CHECK.due("a and c ahead of b and d", Check.told("horse a 0 5 0 1;horse b 0 9 0 1;horse c 1 5 0 1;horse d 1 9 0 1;").nextFight(1), 5);
        CHECK.due("b and c, as a and d TALK",
                Check.told("trough t 9 9 0;horse a 0 9 5 1;horse b 0 5 0 1;horse c 1 5 0 1;horse d 1 9 0 1;").nextFight(1), 5);
    }

    private static void nextFightRefused() {
        CHECK.about("15: NONE for another what");
        for (int bad : new int[] {-1, 2, MIN, MAX}) {
            CHECK.leavesAll(Scenes::busy, "nextFight(" + bad + ")", x -> x.nextFight(bad), -1);
        }
    }

    private static void sendInZeroToTwenty() {
        CHECK.about("16: in how many HOURS 0 .. 20 it should be sent there");
        // b comes to a in the HOUR in which it is sent: the later the fewer.
        TroughTreaty x = Check.told("road 10;trough p 5 0 0;horse a 0 5 0 1;horse b 1 0 0 5;law dry 0;law fight 0;");
        CHECK.due("20 at most", x.sendIn(1, 0, 0), 20);
        CHECK.due("FIGHTS then", x.sendIn(1, 0, 1), 20);
        // b is with a and goes away: the sooner the fewer.
        x = Check.told("road 10;trough p 5 0 0;horse a 0 0 0 1;horse b 1 0 0 5;law dry 0;law fight 0;");
        CHECK.due("0 at least", x.sendIn(1, 0, 0), 0);
        CHECK.due("FIGHTS then", x.sendIn(1, 0, 1), 0);
        // At p only those who come there in HOUR 20 and not ahead of it have no FIGHT with a.
        for (int hour : new int[] {19, 20, 21}) {
            x = Check.told("road 10;trough p 5 0 0;trough q 10 0 0;horse a 0 5 0 5;horse b 1 0 0 5;lap a q " + hour + ";law dry 0;law fight 0;");
            CHECK.due("a leaves in HOUR " + hour, x.sendIn(1, 0, 0), Math.min(20, hour));
            CHECK.due("FIGHTS then", x.sendIn(1, 0, 1), hour > 20 ? 1 : 0);
        }
        CHECK.leavesAll(Scenes::busy, "sendIn(0, 0, 0)", y -> y.sendIn(0, 0, 0) >= 0 ? 1 : 0, 1);
    }

    private static void sendInFortyHours() {
        CHECK.about("16: so that fewest FIGHTS are in 40 HOURS as it goes from now on");
        CHECK.due("from HOUR 38 on", fightIn(38).sendIn(0, 0, 1), 2);
        CHECK.due("from HOUR 39 on", fightIn(39).sendIn(0, 0, 1), 1);
        CHECK.due("from HOUR 40 on", fightIn(40).sendIn(0, 0, 1), 0);
        TroughTreaty x = fightIn(45);
        x.go(5);
        CHECK.due("from now on", x.sendIn(0, 0, 1), 0);
        x.go(1);
        CHECK.due("from now on", x.sendIn(0, 0, 1), 1);
        x.go(44);
        CHECK.due("FIGHTS so far don't count", x.sendIn(0, 0, 1), 40);
    }

    private static void sendInAsItGoes() {
        CHECK.about("16: as it goes");
        // As it goes there is WATER for HOURS 10 .. 18, and so they TALK then.
        String text = "road 10;trough p 5 0 9;horse a 0 5 9 1;horse b 1 5 0 1;seed 5;law gulp 1;law dry 0;law fight 0;rain ";
        for (int what = 0; what <= 4; what++) {
            TroughTreaty x = Check.told(text + "50;");
            x.tried(what, 0, 1);
            CHECK.due("rain 50 behind tried(" + what + ")", x.sendIn(0, 0, 1), 31);
            x.chance(5, 50, 0, 0);
            CHECK.due("rain 50 behind chance()", x.sendIn(0, 0, 1), 31);
        }
        CHECK.due("rain 49", Check.told(text + "49;").sendIn(0, 0, 1), 40);
        // FIGHTS so far, and fewer the later b is sent.
        TroughTreaty so = Check.told("road 10;trough p 5 0 0;horse a 0 5 0 1;horse b 1 5 0 5;law dry 0;law fight 0;");
        so.go(9);
        so.lead(1, 0);
        CHECK.due("FIGHTS so far", so.count(6), 9);
        CHECK.due("as late as may be", so.sendIn(1, 0, 0), 20);
        CHECK.due("FIGHTS then", so.sendIn(1, 0, 1), 20);
    }

    private static void sendInAheadOfLaps() {
        CHECK.about("16: (ahead of (1) of that HOUR)");
        TroughTreaty x = Check.told("road 10;trough p 5 0 0;trough q 0 0 0;horse a 0 5 0 1;horse b 1 0 0 5;lap b q 7;law dry 0;law fight 0;");
        CHECK.due("the LAP of HOUR 7 takes it away", x.sendIn(1, 0, 0), 7);
        CHECK.due("FIGHTS then", x.sendIn(1, 0, 1), 0);
        x = Check.told("road 10;trough p 5 0 0;trough q 0 0 0;horse a 0 5 0 1;horse b 1 0 0 5;lap b q 0;law dry 0;law fight 0;");
        CHECK.due("the LAP of HOUR 0", x.sendIn(1, 0, 0), 0);
    }

    private static void sendInFirstOfSeveral() {
        CHECK.about("16: the first of several");
        TroughTreaty x = Check.told("road 10;trough p 5 0 0;trough q 10 0 0;horse a 0 5 0 5;horse b 1 0 0 5;lap a q 3;law dry 0;law fight 0;");
        CHECK.due("3 .. 20 are alike", x.sendIn(1, 0, 0), 3);
        CHECK.due("0 .. 20 are alike", Check.told("trough p 5 0 0;horse a 0 5 0 5;").sendIn(0, 0, 0), 0);
    }

    private static void sendInRefused() {
        CHECK.about("16: -2: it FELL");
        CHECK.leavesAll(Scenes::busy, "sendIn(2, 0, 0)", x -> x.sendIn(2, 0, 0), -2);
        CHECK.leavesAll(Scenes::busy, "sendIn(2, 0, 1)", x -> x.sendIn(2, 0, 1), -2);
        CHECK.about("16: NONE: no such ones");
        for (int bad : new int[] {-1, 3, MIN, MAX}) {
            CHECK.leavesAll(Scenes::busy, "sendIn(" + bad + ", 0, 0)", x -> x.sendIn(bad, 0, 0), -1);
        }
        for (int bad : new int[] {-1, 2, MIN, MAX}) {
            CHECK.leavesAll(Scenes::busy, "sendIn(0, " + bad + ", 0)", x -> x.sendIn(0, bad, 0), -1);
            CHECK.leavesAll(Scenes::busy, "sendIn(0, 0, " + bad + ")", x -> x.sendIn(0, 0, bad), -1);
            CHECK.leavesAll(Scenes::busy, "sendIn(2, " + bad + ", 0) of one that FELL", x -> x.sendIn(2, bad, 0), -1);
            CHECK.leavesAll(Scenes::busy, "sendIn(2, 0, " + bad + ") of one that FELL", x -> x.sendIn(2, 0, bad), -1);
        }
        CHECK.due("the last TROUGH", Scenes.busy().sendIn(0, 1, 0) >= 0, true);
    }

    private static void pumpHours() {
        CHECK.about("17: let no HORSE FALL in n HOURS as it goes (n 1 .. 60)");
        TroughTreaty x = Check.told("trough a 5 0 0;horse h 0 5 40 1;");
        CHECK.due("59 HOURS", x.pump(59), 0);
        CHECK.due("60 HOURS", x.pump(60), 1);
        x = Check.told("trough a 5 0 0;horse h 0 5 99 1;");
        CHECK.due("1 HOUR", x.pump(1), 1);
        CHECK.due("pump(0)", x.pump(0), -1);
        CHECK.due("pump(61)", x.pump(61), -1);
        CHECK.about("17: their WATER 99 now");
        // 1 gulp an HOUR: 99 of them and no more.
        x = Check.told("trough a 5 30 0;horse h 0 5 99 1;law gulp 1;");
        CHECK.due("30 are enough", x.pump(30), 0);
        CHECK.due("31 HOURS", x.pump(31), 1);
        x = Check.told("trough a 5 0 0;horse h 0 5 99 1;law dry 2;law gulp 2;");
        CHECK.due("49 HOURS of 2", x.pump(49), 1);
        CHECK.due("1 is left for the 50th", x.pump(50), -2);
        CHECK.leavesAll(Scenes::busy, "pump(60)", y -> y.pump(60), 0);
    }

    private static void pumpFewestAndLeast() {
        CHECK.about("17: the fewest TROUGHS (bits, of several the least)");
        String two = "horse h 0 3 95 1;lap h b 0;lap h a 1;";
        CHECK.due("1 of 1, 2", Check.told("trough a 5 0 0;trough b 4 0 0;" + two).pump(5), 1);
        CHECK.due("1 of 1, 2", Check.told("trough b 4 0 0;trough a 5 0 0;" + two).pump(5), 1);
        // c by itself is fewer than a and b, though its bit is more.
        String three = "trough a 5 0 0;trough b 9 0 0;trough c 7 0 0;horse h 0 5 97 2;horse k 0 9 97 2;lap h c 1;lap k c 1;";
        CHECK.due("4 ahead of 3", Check.told(three).pump(10), 4);
        // It needs a, then c, then b, and comes to each only by the one ahead.
        String along = "trough a 0 0 0;trough b 2 0 0;trough c 1 0 0;horse h 0 0 50 1;lap h b 1;law dry 95;law gulp 99;";
        int[] needed = {1, 5, 7, -2};
        for (int n = 1; n <= 4; n++) {
            CHECK.due("along: pump(" + n + ")", Check.told(along).pump(n), needed[n - 1]);
        }
        TroughTreaty again = Check.told(along);
        for (int n = 4; n >= 1; n--) {
            CHECK.due("again: pump(" + n + ")", again.pump(n), needed[n - 1]);
        }
        String all = "";
        for (int i = 0; i < 6; i++) {
            all += "trough " + (char) ('a' + i) + " " + i + " 0 0;horse " + (char) ('a' + i) + " 0 " + i + " 9" + (9 - i) + " 1;";
        }
        int[] wanted = {1, 3, 7, 15, 31, 63};
        for (int n = 1; n <= 6; n++) {
            CHECK.due("pump(" + n + ")", Check.told(all).pump(n), wanted[n - 1]);
        }
    }

    private static void pumpByNone() {
        CHECK.about("17: -2: by none");
        CHECK.leavesAll(() -> Check.told("trough a 5 0 0;horse h 0 4 95 1;"), "pump(5)", x -> x.pump(5), -2);
        CHECK.due("pump(4)", Check.told("trough a 5 0 0;horse h 0 4 95 1;").pump(4), 0);
        CHECK.due("no TROUGHS", Check.told("horse h 0 4 95 1;").pump(5), -2);
        CHECK.due("no HORSES", new TroughTreaty().pump(60), 0);
        CHECK.due("HURT", Check.told("trough a 5 0 0;horse h 0 4 0 1;horse k 1 4 0 1;law fight 99;").pump(2), -2);
        CHECK.due("who FELL doesn't FALL", Scenes.fallen().pump(60), 0);
    }

    private static void pumpRefused() {
        CHECK.about("17: NONE: no such n");
        for (int bad : new int[] {0, -1, 61, MIN, MAX}) {
            CHECK.leavesAll(Scenes::busy, "pump(" + bad + ")", x -> x.pump(bad), -1);
        }
    }

    private static void meetByHours() {
        CHECK.about("29: in how many HOURS as it goes (1: this one)");
        CHECK.due("at one PLACE now", Check.told("horse h 0 5 0 1;horse k 0 5 0 1;").meet(0, 1), 1);
        TroughTreaty x = Check.told("road 60;trough a 60 99 0;horse h 0 60 0 1;horse k 0 0 0 1;lap k a 99;law dry 0;");
        CHECK.due("the farthest there is", x.meet(0, 1), 159);
        CHECK.due("the other way round", x.meet(1, 0), 159);
        x.go(158);
        CHECK.due("1", x.meet(0, 1), 1);
        CHECK.about("29: -2: not by then");
        CHECK.due("never", Check.told("horse h 0 5 0 1;horse k 0 6 0 1;law dry 0;").meet(0, 1), -2);
        CHECK.due("on its way it isn't there", Check.told("trough a 20 0 0;horse h 0 5 0 1;horse k 0 0 0 4;lap k a 0;").meet(0, 1), -2);
        CHECK.due("on its way it is there", Check.told("trough a 20 0 0;horse h 0 8 0 1;horse k 0 0 0 4;lap k a 0;").meet(0, 1), 2);
        CHECK.leavesAll(Scenes::busy, "meet(0, 1)", y -> y.meet(0, 1), 2);
    }

    private static void meetBothOn() {
        CHECK.about("29: both ON behind it");
        String way = "trough a 9 0 0;horse k 0 0 0 1;lap k a 0;horse h 0 9 ";
        CHECK.due("h FALLS behind it", Check.told(way + "90 1;").meet(0, 1), 9);
        CHECK.due("h FALLS in it", Check.told(way + "91 1;").meet(0, 1), -2);
        CHECK.due("the other one", Check.told(way + "91 1;").meet(1, 0), -2);
        CHECK.due("one FELL", Scenes.busy().meet(0, 2), -2);
        CHECK.due("one FELL", Scenes.busy().meet(2, 0), -2);
        CHECK.due("both FELL at one PLACE", Scenes.fallen().meet(0, 1), -2);
    }

    private static void meetRefused() {
        CHECK.about("29: NONE: no such HORSES, alike");
        for (int bad : new int[] {-1, 3, MIN, MAX}) {
            CHECK.leavesAll(Scenes::busy, "meet(" + bad + ", 0)", x -> x.meet(bad, 0), -1);
            CHECK.leavesAll(Scenes::busy, "meet(0, " + bad + ")", x -> x.meet(0, bad), -1);
        }
        for (int horse = 0; horse < 3; horse++) {
            int one = horse;
            CHECK.leavesAll(Scenes::busy, "meet(" + one + ", " + one + ")", x -> x.meet(one, one), -1);
        }
    }

    private static void runsDryByHours() {
        CHECK.about("33: in how many HOURS as it goes, 199 at most; -2: not by then");
        int[] hours = {0, 1, 197, 198, 199, 200};
        int[] wanted = {1, 2, 198, 199, -2, -2};
        for (int i = 0; i < hours.length; i++) {
            TroughTreaty x = Check.told("trough b 1 5 0;trough a 7 1 0;horse h 0 7 9 1;law dry 0;law gulp hour >= " + hours[i] + ";");
            CHECK.due("HOUR " + hours[i], x.runsDry(1), wanted[i]);
            CHECK.due("another one", x.runsDry(0), -2);
        }
        CHECK.about("33: (0: now)");
        CHECK.due("WATER 0", Check.told("trough a 7 0 9;rain 100;").runsDry(0), 0);
        CHECK.due("WATER 1", Check.told("trough a 7 1 9;rain 100;").runsDry(0), -2);
        CHECK.leavesAll(Scenes::busy, "runsDry(1)", x -> x.runsDry(1) >= -2 ? 1 : 0, 1);
    }

    private static void runsDryRefused() {
        CHECK.about("33: NONE: no such TROUGH");
        for (int bad : new int[] {-1, 2, 6, MIN, MAX}) {
            CHECK.leavesAll(Scenes::busy, "runsDry(" + bad + ")", x -> x.runsDry(bad), -1);
        }
        CHECK.due("runsDry(0) of none", new TroughTreaty().runsDry(0), -1);
    }

    private static void chanceWithin() {
        CHECK.about("38: n 1 .. 99 HOURS from now; so much WATER 0 .. 99 at least then");
        TroughTreaty x = Check.told("trough a 5 50 4;rain 100;");
        CHECK.due("9 HOURS: 50", x.chance(0, 9, 0, 50), 10);
        CHECK.due("9 HOURS: 51", x.chance(0, 9, 0, 51), 0);
        CHECK.due("10 HOURS: 54", x.chance(0, 10, 0, 54), 10);
        CHECK.due("10 HOURS: 55", x.chance(0, 10, 0, 55), 0);
        CHECK.due("99 HOURS: 86", x.chance(0, 99, 0, 86), 10);
        CHECK.due("99 HOURS: 87", x.chance(0, 99, 0, 87), 0);
        CHECK.due("1 HOUR: 50", x.chance(0, 1, 0, 50), 10);
        CHECK.due("WATER 0", x.chance(0, 1, 0, 0), 10);
        CHECK.due("WATER 99", x.chance(0, 1, 0, 99), 0);
        x.fill(0, 99);
        CHECK.due("WATER 99", x.chance(0, 1, 0, 99), 10);
        x = Check.told("trough a 5 50 4;rain 100;");
        CHECK.due("1 HOUR from HOUR 0 on", x.chance(0, 1, 0, 54), 0);
        x.go(9);
        CHECK.due("1 HOUR from HOUR 9 on", x.chance(0, 1, 0, 54), 10);
        CHECK.about("38: numbers from a seed 0 .. 2147483647 on");
        TroughTreaty rain = Check.told("trough a 5 0 1;rain 50;");
        for (int seed : new int[] {0, 1, 99999, 100000, 65536, MAX - 1, MAX}) {
            CHECK.due("seed " + seed, rain.chance(seed, 30, 0, 2), times(seed, 3, 2));
        }
        CHECK.due("seed -1", rain.chance(-1, 30, 0, 2), -1);
        CHECK.due("seed MIN", rain.chance(MIN, 30, 0, 2), -1);
        CHECK.leavesAll(Scenes::busy, "chance(5, 99, 1, 40)", y -> y.chance(5, 99, 1, 40) >= 0 ? 1 : 0, 1);
    }

    /** In how many of ten times at least so many of these tenth HOURS have rain of 50. */
    private static int times(long seed, int tenths, int least) {
        long last = seed;
        int times = 0;
        for (int i = 0; i < 10; i++) {
            int rains = 0;
            for (int k = 0; k < tenths; k++) {
                last = (last * 1103515245L + 12345L) % (1L << 31);
                rains += last / 65536 % 100 < 50 ? 1 : 0;
            }
            times += rains >= least ? 1 : 0;
        }
        return times;
    }

    private static void chanceTenTimes() {
        CHECK.about("38: in how many of ten times drawn, one behind another");
        TroughTreaty x = Check.told("trough a 5 0 1;rain 50;seed 9;");
        for (int seed = 0; seed < 30; seed++) {
            for (int least = 0; least <= 4; least++) {
                CHECK.due("seed " + seed + ", " + least, x.chance(seed, 39, 0, least), times(seed, 3, least));
            }
        }
        TroughTreaty none = Check.told("trough a 5 0 1;rain 0;");
        CHECK.due("rain 0", none.chance(5, 99, 0, 1), 0);
        TroughTreaty all = Check.told("trough a 5 0 1;rain 100;");
        CHECK.due("rain 100", all.chance(5, 99, 0, 9), 10);
    }

    private static void chanceRefused() {
        CHECK.about("38: NONE: no such ones");
        for (int bad : new int[] {-1, MIN}) {
            CHECK.leavesAll(Scenes::busy, "chance(" + bad + ", 1, 0, 0)", x -> x.chance(bad, 1, 0, 0), -1);
        }
        for (int bad : new int[] {0, -1, 100, MIN, MAX}) {
            CHECK.leavesAll(Scenes::busy, "chance(0, " + bad + ", 0, 0)", x -> x.chance(0, bad, 0, 0), -1);
        }
        for (int bad : new int[] {-1, 2, MIN, MAX}) {
            CHECK.leavesAll(Scenes::busy, "chance(0, 1, " + bad + ", 0)", x -> x.chance(0, 1, bad, 0), -1);
        }
        for (int bad : new int[] {-1, 100, MIN, MAX}) {
            CHECK.leavesAll(Scenes::busy, "chance(0, 1, 0, " + bad + ")", x -> x.chance(0, 1, 0, bad), -1);
        }
        CHECK.due("the last TROUGH", Scenes.busy().chance(MAX, 99, 1, 0), 10);
    }

    private static void triedEach() {
        CHECK.about("39: 0 no rain");
        String wet = "trough a 5 0 9;horse h 0 5 9 1;horse k 1 5 0 1;law dry 0;law gulp 1;law fight 0;rain ";
        CHECK.due("rain 100 stays away", Check.told(wet + "100;").tried(0, 0, 20), 20);
        CHECK.due("rain 50 stays away", Check.told(wet + "50;").tried(0, 0, 20), 20);
        CHECK.due("as it goes", Check.told(wet + "50;").ahead(20, 0, 0), 11);
        CHECK.about("39: 1 nobody DRINKS");
        TroughTreaty x = Check.told("trough a 5 99 0;horse h 0 5 9 1;horse k 1 5 9 1;law fight 0;");
        CHECK.due("as it goes", x.ahead(9, 0, 0), 0);
        CHECK.due("nobody", x.tried(1, 0, 9), 9);
        CHECK.about("39: 2 HORSE i isn't there");
        TroughTreaty three = Check.told("horse a 0 5 0 1;horse b 1 5 0 1;horse c 1 5 0 1;law fight 0;");
        CHECK.due("as it goes", three.ahead(5, 0, 0), 10);
        CHECK.due("a", three.tried(2, 0, 5), 0);
        CHECK.due("b", three.tried(2, 1, 5), 5);
        CHECK.due("c", three.tried(2, 2, 5), 5);
        CHECK.due("who FELL isn't there anyway", Scenes.busy().tried(2, 2, 9), Scenes.busy().ahead(9, 0, 0));
        CHECK.about("39: 3 all TROUGHS have WATER 99 now");
        TroughTreaty dry = Check.told("trough a 5 0 0;horse h 0 5 99 1;horse k 1 5 0 1;law dry 0;law gulp 1;law fight 0;");
        CHECK.due("as it goes", dry.ahead(100, 0, 0), 100);
        CHECK.due("99 HOURS", dry.tried(3, 0, 99), 0);
        CHECK.due("100 HOURS", dry.tried(3, 0, 100), 1);
        CHECK.about("39: 4 each PACE is twice as much");
        TroughTreaty far = Check.told("trough a 18 0 0;horse h 0 18 0 1;horse k 1 0 0 9;lap k a 0;law fight 0;");
        CHECK.due("as it goes", far.ahead(3, 0, 0), 2);
        CHECK.due("18 in one HOUR", far.tried(4, 0, 3), 3);
        TroughTreaty farther = Check.told("trough a 19 0 0;horse h 0 19 0 1;horse k 1 0 0 9;lap k a 0;law fight 0;");
        CHECK.due("19 in two HOURS", farther.tried(4, 0, 3), 2);
        TroughTreaty named = Check.told("horse h 0 5 0 3;horse k 1 5 0 3;law dry pace;law fight 0;");
        CHECK.due("THIRST is 100 by 6 each in HOUR 16", named.tried(4, 0, 40), 17);
        CHECK.due("then it is as told: law", named.law(0, 0), 3);
        CHECK.due("then it is as told: ahead", named.ahead(40, 0, 0), 34);
    }

    private static void triedHours() {
        CHECK.about("39: TRIED for n HOURS (n 0 .. 200)");
        TroughTreaty x = Check.told("horse h 0 5 0 1;horse k 1 5 0 1;law dry 0;law fight 0;");
        for (int what = 0; what <= 4; what++) {
            int each = what == 2 ? 0 : 1;
            CHECK.due("tried(" + what + ", 0, 0)", x.tried(what, 0, 0), 0);
            CHECK.due("tried(" + what + ", 0, 1)", x.tried(what, 0, 1), each);
            CHECK.due("tried(" + what + ", 0, 200)", x.tried(what, 0, 200), 200 * each);
            CHECK.due("tried(" + what + ", 0, 201)", x.tried(what, 0, 201), -1);
            CHECK.due("tried(" + what + ", 0, -1)", x.tried(what, 0, -1), -1);
            int asked = what;
            CHECK.leavesAll(Scenes::busy, "tried(" + what + ", 0, 99)", y -> y.tried(asked, 0, 99) >= 0 ? 1 : 0, 1);
        }
        x.go(3);
        CHECK.due("FIGHTS more", x.tried(0, 0, 4), 4);
        CHECK.due("without LINES", new TroughTreaty().tried(0, 0, 200), 0);
    }

    private static void triedRefused() {
        CHECK.about("39: NONE: no such ones (i 0 of all but 2)");
        for (int bad : new int[] {-1, 1, MIN, MAX}) {
            for (int what : new int[] {0, 1, 3, 4}) {
                CHECK.leavesAll(Scenes::busy, "tried(" + what + ", " + bad + ", 5)", x -> x.tried(what, bad, 5), -1);
            }
        }
        for (int bad : new int[] {-1, 3, MIN, MAX}) {
            CHECK.leavesAll(Scenes::busy, "tried(2, " + bad + ", 5)", x -> x.tried(2, bad, 5), -1);
        }
        for (int bad : new int[] {-1, 5, MIN, MAX}) {
            CHECK.leavesAll(Scenes::busy, "tried(" + bad + ", 0, 5)", x -> x.tried(bad, 0, 5), -1);
        }
        for (int bad : new int[] {-1, 201, MIN, MAX}) {
            CHECK.leavesAll(Scenes::busy, "tried(2, 2, " + bad + ")", x -> x.tried(2, 2, bad), -1);
        }
        CHECK.due("tried(2, 0, 5) of none", new TroughTreaty().tried(2, 0, 5), -1);
    }
}
