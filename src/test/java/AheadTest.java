/** Promises 13 to 17, 29, 33, 39: what comes as it goes. */
public final class AheadTest {
    private static final Check CHECK = new Check();

    public static void main(String[] args) {
        ahead();
        rainAsItGoes();
        falls();
        nextFight();
        sendIn();
        pump();
        meet();
        runsDry();
        tried();
        CHECK.end();
    }

    private static void ahead() {
        TroughTreaty x = Check.told("trough a 5 10 0;horse h 0 5 4 1;horse k 1 5 94 1;");
        x.go(1);
        // HOUR 0: h drinks 5, k 5; TALK. From HOUR 1 on: FIGHTS, k has 91 in HOUR 1, FALLS in HOUR 10.
        CHECK.due("TALKS so far", x.count(7), 1);
        CHECK.due("FIGHTS", x.ahead(3, 0, 0), 3);
        CHECK.due("FIGHTS, i isn't looked at", x.ahead(3, 0, 99), 3);
        CHECK.due("FIGHTS", x.ahead(200, 0, -1), 10);
        CHECK.due("TALKS", x.ahead(3, 1, -7), 0);
        CHECK.due("THIRST", x.ahead(3, 2, 1), 93);
        CHECK.due("THIRST now", x.ahead(0, 2, 1), 90);
        CHECK.due("THIRST of who FELL", x.ahead(50, 2, 1), 100);
        CHECK.due("WATER", x.ahead(3, 3, 0), 0);
        CHECK.due("ON", x.ahead(9, 4, 5), 2);
        CHECK.due("ON", x.ahead(10, 4, 5), 1);
        CHECK.due("ON", x.ahead(100, 4, 5), 0);
        x.fill(0, 2);
        CHECK.due("TALKS", x.ahead(1, 1, 0), 1);
        CHECK.due("WATER", x.ahead(0, 3, 0), 2);
        CHECK.due("n -1", x.ahead(-1, 0, 0), -1);
        CHECK.due("n 201", x.ahead(201, 0, 0), -1);
        CHECK.due("what 5", x.ahead(1, 5, 0), -1);
        CHECK.due("what -1", x.ahead(1, -1, 0), -1);
        CHECK.due("HORSE 2", x.ahead(1, 2, 2), -1);
        CHECK.due("HORSE -1", x.ahead(1, 2, -1), -1);
        CHECK.due("TROUGH 1", x.ahead(1, 3, 1), -1);
        CHECK.due("TROUGH -1", x.ahead(1, 3, -1), -1);
        CHECK.due("all stays: HOUR", x.count(5), 1);
        CHECK.due("all stays: FIGHTS", x.count(6), 0);
        CHECK.due("all stays: undo", x.count(13), 1);
    }

    private static void rainAsItGoes() {
        int[] rain = {0, 49, 50, 99, 100};
        int[] water = {10, 10, 17, 17, 17};
        for (int i = 0; i < rain.length; i++) {
            TroughTreaty x = Check.told("trough a 5 10 7;seed 77;rain " + rain[i] + ";");
            CHECK.due("rain " + rain[i], x.ahead(10, 3, 0), water[i]);
            CHECK.due("ahead of it", x.ahead(9, 3, 0), 10);
        }
    }

    private static void falls() {
        TroughTreaty x = Check.told("trough a 5 99 0;horse h 0 0 99 1;horse k 0 0 90 1;horse m 0 0 0 1;horse n 0 5 0 1;law dry 1;");
        CHECK.due("in this HOUR", x.falls(0), 1);
        CHECK.due("in ten HOURS", x.falls(1), 10);
        CHECK.due("in a hundred HOURS", x.falls(2), 100);
        CHECK.due("99 later", x.falls(3), 199);
        CHECK.due("HORSE 4", x.falls(4), -1);
        CHECK.due("HORSE -1", x.falls(-1), -1);
        x.go(1);
        CHECK.due("FELL", x.falls(0), 0);
        CHECK.due("in nine HOURS", x.falls(1), 9);
        Check.text(x, "trough a 5 99 1;horse n 0 5 0 1;rain 100;");
        CHECK.due("not by then", x.falls(0), -2);
        Check.text(x, "horse n 0 5 0 1;law dry 0;");
        CHECK.due("never", x.falls(0), -2);
    }

    private static void nextFight() {
        TroughTreaty x = Check.told("road 60;trough a 9 0 0;trough b 60 0 0;horse h 0 0 0 1;horse k 1 20 0 1;horse m 0 60 0 1;horse n 1 50 0 1;"
                + "lap h a 0;lap k a 0;lap m b 0;lap n b 2;law dry 0;");
        CHECK.due("in eleven HOURS", x.nextFight(0), 11);
        CHECK.due("at 9", x.nextFight(1), 9);
        x.go(11);
        CHECK.due("FOUGHT", x.count(6), 1);
        CHECK.due("in this HOUR", x.nextFight(0), 1);
        CHECK.due("of two at once the first pair's", x.nextFight(1), 9);
        CHECK.due("two at once", x.ahead(1, 0, 0), 2);
        x.lead(0, 30);
        CHECK.due("the other one", x.nextFight(1), 60);
        CHECK.due("what 2", x.nextFight(2), -1);
        CHECK.due("what -1", x.nextFight(-1), -1);
        Check.text(x, "road 60;trough a 60 0 0;horse h 0 60 0 1;horse k 1 0 0 1;lap k a 99;law dry 0;");
        CHECK.due("60 HOURS from HOUR 99 on", x.nextFight(0), 159);
        lastHourLooked();
        Check.text(x, "horse h 0 6 0 1;horse k 1 0 0 1;law dry 0;");
        CHECK.due("not by then", x.nextFight(0), -2);
        CHECK.due("not by then", x.nextFight(1), -2);
    }

    /** What comes in the 199th HOUR is told, what comes in the one behind it isn't. */
    private static void lastHourLooked() {
        for (int hour = 197; hour <= 200; hour++) {
            int due = hour + 1 <= 199 ? hour + 1 : -2;
            // h drinks up to this HOUR, and so they TALK.
            TroughTreaty x = Check.told("trough a 7 99 9;horse h 0 7 9 1;horse k 1 7 0 1;rain 100;"
                    + "law gulp (hour < " + hour + ") * (side = 0);law dry side = 0;law fight 0;");
            CHECK.due("a FIGHT in HOUR " + hour, x.nextFight(0), due);
            CHECK.due("its PLACE", x.nextFight(1), due == -2 ? -2 : 7);
            Check.text(x, "trough a 7 1 0;horse h 0 7 9 1;law dry 0;law gulp hour >= " + hour + ";");
            CHECK.due("no WATER in HOUR " + hour, x.runsDry(0), due);
            Check.text(x, "horse h 0 7 9 1;law dry 99 * (hour >= " + hour + ");");
            CHECK.due("it FALLS in HOUR " + hour, x.falls(0), due);
        }
    }

    private static void sendIn() {
        // b is at 5 in the HOUR in which it is sent and FIGHTS there, the later the less.
        TroughTreaty x = Check.told("road 10;trough p 5 0 0;horse a 0 5 0 1;horse b 1 0 0 5;law dry 0;law fight 0;");
        CHECK.due("as late as may be", x.sendIn(1, 0, 0), 20);
        CHECK.due("FIGHTS", x.sendIn(1, 0, 1), 20);
        CHECK.due("a stays anyway", x.sendIn(0, 0, 0), 0);
        CHECK.due("FIGHTS", x.sendIn(0, 0, 1), 0);
        CHECK.due("what 2", x.sendIn(0, 0, 2), -1);
        CHECK.due("what -1", x.sendIn(0, 0, -1), -1);
        CHECK.due("TROUGH 1", x.sendIn(0, 1, 0), -1);
        CHECK.due("HORSE 2", x.sendIn(2, 0, 0), -1);
        CHECK.due("all stays", x.horse(1, 4), -2);
        // A LAP of the same HOUR comes behind the sending.
        Check.text(x, "road 10;trough p 5 0 0;trough q 0 0 0;horse a 0 5 0 1;horse b 1 0 0 5;lap b q 7;law dry 0;law fight 0;");
        CHECK.due("the LAP takes it away", x.sendIn(1, 0, 0), 7);
        CHECK.due("no FIGHTS", x.sendIn(1, 0, 1), 0);
        x.go(3);
        CHECK.due("from now on", x.sendIn(1, 0, 0), 4);
        x.lead(1, 5);
        x.go(2);
        CHECK.due("FIGHTS so far", x.count(6), 2);
        CHECK.due("FIGHTS so far don't count: HOURS 5 and 6 do", x.sendIn(1, 0, 1), 2);
        CHECK.due("nor do they if otherwise", x.tried(1, 0, 1), 1);
        // As it goes there is WATER for HOURS 10 .. 18, and so they TALK.
        Check.text(x, "road 10;trough p 5 0 9;horse a 0 5 9 1;horse b 1 5 0 1;rain 50;seed 5;law gulp 1;law dry 0;law fight 0;");
        x.tried(0, 0, 1);
        CHECK.due("FIGHTS as it goes", x.sendIn(0, 0, 1), 40 - 9);
        CHECK.due("FIGHTS as it goes", x.ahead(40, 0, 0), 40 - 9);
        Check.text(x, "trough p 5 0 0;horse a 0 5 99 1;");
        x.go(1);
        CHECK.due("FELL", x.sendIn(0, 0, 0), -2);
        CHECK.due("FELL, no such what", x.sendIn(0, 0, 2), -1);
        CHECK.due("FELL, no such TROUGH", x.sendIn(0, 1, 0), -1);
    }

    private static void pump() {
        TroughTreaty x = Check.told("trough a 5 0 0;trough b 9 0 0;trough c 1 0 0;horse h 0 5 95 1;horse k 0 9 90 1;horse m 0 1 92 1;");
        CHECK.due("none needed", x.pump(4), 0);
        CHECK.due("for h", x.pump(5), 1);
        CHECK.due("for h and m", x.pump(8), 5);
        CHECK.due("for all", x.pump(10), 7);
        CHECK.due("all stays", x.count(9), 0);
        CHECK.due("n 0", x.pump(0), -1);
        CHECK.due("n 61", x.pump(61), -1);
        CHECK.due("n 60", x.pump(60), 7);
        CHECK.due("n 1", x.pump(1), 0);
        Check.text(x, "trough a 5 0 0;horse h 0 4 95 1;");
        CHECK.due("by none", x.pump(5), -2);
        CHECK.due("by none needed", x.pump(4), 0);
        x.go(5);
        CHECK.due("who FELL doesn't FALL", x.pump(5), 0);
        // Two ways with one TROUGH each: the least bits.
        Check.text(x, "trough a 5 0 0;trough b 4 0 0;horse h 0 3 95 1;lap h b 0;lap h a 1;");
        CHECK.due("of several the least", x.pump(5), 1);
        Check.text(x, "trough b 4 0 0;trough a 5 0 0;horse h 0 3 95 1;lap h b 0;lap h a 1;");
        CHECK.due("of several the least", x.pump(5), 1);
        // One that is fuller than told is in no set.
        Check.text(x, "trough a 5 3 0;horse h 0 5 95 1;");
        CHECK.due("with its WATER", x.pump(7), 0);
        CHECK.due("with 99", x.pump(8), 1);
    }

    private static void meet() {
        TroughTreaty x = Check.told("road 30;trough a 10 0 0;horse h 0 0 0 5;horse k 0 20 0 2;horse m 0 10 98 1;lap h a 0;lap k a 0;");
        CHECK.due("h and k", x.meet(0, 1), 5);
        CHECK.due("k and h", x.meet(1, 0), 5);
        CHECK.due("m FALLS in that HOUR", x.meet(0, 2), -2);
        CHECK.due("m FELL", x.meet(1, 2), -2);
        CHECK.due("alike", x.meet(1, 1), -1);
        CHECK.due("HORSE 3", x.meet(1, 3), -1);
        CHECK.due("HORSE -1", x.meet(-1, 1), -1);
        x.go(5);
        CHECK.due("there, 1: this one", x.meet(0, 1), 1);
    }

    private static void runsDry() {
        TroughTreaty x = Check.told("trough a 5 20 9;trough b 0 0 0;trough c 7 9 0;horse h 0 5 50 1;rain 50;");
        CHECK.due("in three HOURS", x.runsDry(0), 3);
        CHECK.due("now", x.runsDry(1), 0);
        CHECK.due("not by then", x.runsDry(2), -2);
        CHECK.due("TROUGH 3", x.runsDry(3), -1);
        CHECK.due("TROUGH -1", x.runsDry(-1), -1);
        x.go(3);
        CHECK.due("now", x.runsDry(0), 0);
        // It is empty within HOUR 9, but it rains at its end.
        Check.text(x, "trough a 5 9 9;horse h 0 4 50 1;lap h a 9;rain 100;");
        CHECK.due("behind the HOUR after it", x.runsDry(0), 11);
    }

    private static void tried() {
        TroughTreaty x = Check.told("trough a 5 1 9;horse h 0 5 20 1;horse k 1 5 0 1;horse m 2 3 0 1;lap m a 10;rain 60;"
                + "law gulp 1;law fight 0;law dry 0;");
        // As it goes: HOUR 0 a TALK, 1 .. 9 FIGHTS of h and k, rain, from HOUR 11 on m is there too.
        CHECK.due("as it goes", x.ahead(12, 0, 0), 9 + 1);
        CHECK.due("no rain", x.tried(0, 0, 12), 9 + 1 + 3);
        CHECK.due("nobody DRINKS", x.tried(1, 0, 12), 10 + 1 + 3);
        CHECK.due("h isn't there", x.tried(2, 0, 12), 1);
        CHECK.due("k isn't there", x.tried(2, 1, 12), 0);
        CHECK.due("m isn't there", x.tried(2, 2, 12), 9);
        CHECK.due("WATER 99", x.tried(3, 0, 12), 1);
        CHECK.due("twice the PACE", x.tried(4, 0, 11), 9 + 1);
        CHECK.due("n 0", x.tried(0, 0, 0), 0);
        CHECK.due("n 200", x.tried(2, 1, 200) >= 0, true);
        CHECK.due("n 201", x.tried(0, 0, 201), -1);
        CHECK.due("n -1", x.tried(0, 0, -1), -1);
        CHECK.due("i 1 of 0", x.tried(0, 1, 5), -1);
        CHECK.due("i 1 of 1", x.tried(1, 1, 5), -1);
        CHECK.due("i 1 of 3", x.tried(3, 1, 5), -1);
        CHECK.due("i 1 of 4", x.tried(4, 1, 5), -1);
        CHECK.due("i 3 of 2", x.tried(2, 3, 5), -1);
        CHECK.due("i -1 of 2", x.tried(2, -1, 5), -1);
        CHECK.due("what 5", x.tried(5, 0, 5), -1);
        CHECK.due("what -1", x.tried(-1, 0, 5), -1);
        CHECK.due("as it goes again", x.ahead(12, 0, 0), 9 + 1);
        CHECK.due("all stays", x.count(9), 1);
        // The NAME pace is twice as much, too: k has THIRST then, and FALLS by HURT behind two FIGHTS.
        Check.text(x, "trough a 5 0 0;horse h 0 5 0 1;horse k 1 0 0 2;lap k a 0;law dry pace > 3;law fight 50 * (side = 1) * (thirst > 0);");
        CHECK.due("k FALLS", x.tried(4, 0, 20), 2);
        CHECK.due("the law now is as told", x.law(0, 1), 0);
        CHECK.due("k doesn't FALL", x.ahead(20, 0, 0), 18);
        Check.text(x, "trough a 11 0 0;horse h 0 11 0 1;horse k 1 0 0 2;lap k a 0;law fight 0;");
        CHECK.due("twice, not thrice", x.tried(4, 0, 5), 3);
    }
}
