/** Promises 6, 7, 9 to 12, 25, 43: how all stands, what is done by call, HOURS that go by. */
public final class HourTest {
    private static final Check CHECK = new Check();

    public static void main(String[] args) {
        asTold();
        noSuchOnes();
        walking();
        laps();
        drinking();
        encounters();
        pairsInOrder();
        falling();
        rain();
        bounds();
        sending();
        pumping();
        leading();
        peace();
        CHECK.end();
    }

    private static void asTold() {
        TroughTreaty x = Check.told("road 30;trough a 4 50 3;trough b 0 7 9;horse h 3 4 99 9;horse k 2 30 0 1;horse m 1 4 5 2;"
                + "lap h b 7;law dry 1 + 1;");
        int[] h = {3, 4, 99, 9, -2, 0, 1, 0};
        int[] k = {2, 30, 0, 1, -2, 0, 1, 0};
        for (int what = 0; what < 8; what++) {
            CHECK.due("horse(0, " + what + ")", x.horse(0, what), h[what]);
            CHECK.due("horse(1, " + what + ")", x.horse(1, what), k[what]);
        }
        int[] a = {4, 50, 3, 5};
        int[] b = {0, 7, 9, 0};
        for (int what = 0; what < 4; what++) {
            CHECK.due("trough(0, " + what + ")", x.trough(0, what), a[what]);
            CHECK.due("trough(1, " + what + ")", x.trough(1, what), b[what]);
        }
        int[] counts = {2, 3, 1, 30, 3, 0, 0, 0, 3, 57, 0, 0, 0, 0};
        for (int what = 0; what < counts.length; what++) {
            CHECK.due("count(" + what + ")", x.count(what), counts[what]);
        }
        CHECK.due("count(14)", x.count(14), -1);
        CHECK.due("count(-1)", x.count(-1), -1);
    }

    private static void noSuchOnes() {
        TroughTreaty x = Check.told("trough a 4 50 3;horse h 3 4 99 9;");
        CHECK.due("horse(1, 0)", Check.thrown(x, 1, 0), 1);
        CHECK.due("horse(-1, 0)", Check.thrown(x, -1, 0), 1);
        CHECK.due("horse(6, 0)", Check.thrown(x, 6, 0), 1);
        CHECK.due("horse(1, 8)", Check.thrown(x, 1, 8), 1);
        CHECK.due("horse(0, 8)", Check.thrown(x, 0, 8), 2);
        CHECK.due("horse(0, -1)", Check.thrown(x, 0, -1), 2);
        CHECK.due("horse(0, 7)", Check.thrown(x, 0, 7), 0);
        CHECK.due("trough(1, 0)", x.trough(1, 0), -1);
        CHECK.due("trough(-1, 0)", x.trough(-1, 0), -1);
        CHECK.due("trough(0, 4)", x.trough(0, 4), -1);
        CHECK.due("trough(0, -1)", x.trough(0, -1), -1);
    }

    private static void walking() {
        TroughTreaty x = Check.told("road 60;trough a 10 0 0;trough b 50 0 0;horse h 0 0 0 4;horse k 0 60 0 9;horse m 0 30 0 1;");
        x.send(0, 0);
        x.send(1, 1);
        int[] h = {4, 8, 10, 10};
        int[] k = {51, 50, 50, 50};
        for (int i = 0; i < 4; i++) {
            CHECK.due("go(1)", x.go(1), i + 1);
            CHECK.due("h", x.horse(0, 1), h[i]);
            CHECK.due("k", x.horse(1, 1), k[i]);
            CHECK.due("m stays", x.horse(2, 1), 30);
            CHECK.due("THIRST", x.horse(2, 2), i + 1);
        }
        CHECK.due("the GOAL stays", x.horse(0, 4), 0);
        CHECK.due("trough's horses", x.trough(0, 3), 1);
        CHECK.due("trough's horses", x.trough(1, 3), 2);
    }

    private static void laps() {
        TroughTreaty x = Check.told("trough a 10 0 0;trough b 0 0 0;horse h 0 5 0 2;horse k 0 5 0 1;"
                + "lap h a 1;lap h b 3;lap h a 3;lap h b 3;lap k a 0;lap k b 99;");
        x.go(1);
        CHECK.due("no LAP yet", x.horse(0, 4), -2);
        CHECK.due("a LAP of HOUR 0", x.horse(1, 4), 0);
        x.go(1);
        CHECK.due("a LAP of HOUR 1", x.horse(0, 4), 0);
        CHECK.due("it goes in that HOUR", x.horse(0, 1), 7);
        x.send(0, 1);
        x.go(1);
        CHECK.due("sent by call", x.horse(0, 1), 5);
        x.go(1);
        CHECK.due("the last LAP of several", x.horse(0, 4), 1);
        CHECK.due("its way", x.horse(0, 1), 3);
        x.go(95);
        CHECK.due("HOUR 99 is to come", x.horse(1, 4), 0);
        x.go(1);
        // k has THIRST 100 in this HOUR and goes ahead of falling.
        CHECK.due("a LAP of HOUR 99", x.horse(1, 4), 1);
        CHECK.due("its way", x.horse(1, 1), 9);
        CHECK.due("FELL", x.horse(1, 6), 0);
        Check.text(x, "trough a 10 0 0;trough b 0 0 0;horse h 0 5 99 2;lap h a 0;lap h b 5;");
        x.go(6);
        CHECK.due("a LAP of one that FELL", x.horse(0, 4), 1);
        CHECK.due("it goes no more", x.horse(0, 1), 7);
        CHECK.due("it thirsts no more", x.horse(0, 2), 100);
    }

    private static void drinking() {
        TroughTreaty x = Check.told("trough a 5 12 0;horse h 0 5 4 1;horse k 0 5 40 1;horse m 0 5 40 1;horse n 0 6 40 1;");
        x.go(1);
        int[] drank = {5, 7, 0, 0};
        int[] thirst = {0, 34, 41, 41};
        for (int i = 0; i < 4; i++) {
            CHECK.due("DRANK of " + i, x.horse(i, 7), drank[i]);
            CHECK.due("THIRST of " + i, x.horse(i, 2), thirst[i]);
        }
        CHECK.due("WATER", x.trough(0, 1), 0);
        CHECK.due("DRUNK", x.count(10), 12);
        x.go(1);
        CHECK.due("DRANK in the last HOUR", x.horse(0, 7), 0);
        CHECK.due("DRUNK so far", x.count(10), 12);
        x.fill(0, 50);
        x.go(2);
        CHECK.due("DRUNK so far", x.count(10), 12 + 2 + 9 + 9 + 1 + 9 + 9);
    }

    private static void encounters() {
        TroughTreaty x = Check.told("trough a 5 10 0;horse h 0 5 4 1;horse k 1 5 4 1;horse m 1 9 0 1;horse n 1 9 0 1;");
        x.go(1);
        CHECK.due("they TALK", x.count(7), 1);
        CHECK.due("they don't FIGHT", x.count(6), 0);
        x.go(3);
        // Both DRANK 5 in HOUR 0, and there is no WATER behind it.
        CHECK.due("WATER", x.trough(0, 1), 0);
        CHECK.due("TALKS", x.count(7), 1);
        CHECK.due("FIGHTS", x.count(6), 3);
        CHECK.due("HURT", x.horse(0, 5), 3);
        CHECK.due("HURT", x.horse(1, 5), 3);
        CHECK.due("of one SIDE", x.horse(2, 5), 0);
        Check.text(x, "trough a 5 3 0;horse h 0 5 4 1;horse k 1 5 0 1;law dry 0;");
        x.go(1);
        CHECK.due("one of both DRANK", x.count(7), 1);
        x.go(1);
        CHECK.due("none DRANK", x.count(6), 1);
        Check.text(x, "trough a 5 3 0;horse k 1 5 0 1;horse h 0 5 4 1;law dry 0;");
        x.go(1);
        CHECK.due("the other one DRANK", x.count(7), 1);
        Check.text(x, "trough a 0 1 0;horse k 1 0 0 1;horse h 0 0 4 1;law dry 0;");
        x.go(1);
        CHECK.due("DRANK 1 at PLACE 0", x.count(7), 1);
        Check.text(x, "trough a 5 9 0;horse k 1 5 5 1;horse h 0 5 4 1;law gulp 0;");
        x.go(1);
        CHECK.due("DRANK nothing", x.count(6), 1);
    }

    private static void pairsInOrder() {
        // HURT of a pair's first one is asked behind the FIGHTS of pairs ahead.
        TroughTreaty x = Check.told("horse a 0 5 0 1;horse b 1 5 0 1;horse c 2 5 0 1;law fight hurt + 1;");
        x.go(1);
        CHECK.due("FIGHTS", x.count(6), 3);
        CHECK.due("a", x.horse(0, 5), 3);
        CHECK.due("b", x.horse(1, 5), 3);
        CHECK.due("c", x.horse(2, 5), 3);
        CHECK.due("nextFight", x.nextFight(1), 5);
        x.go(6);
        CHECK.due("9999 at most is far off: they FELL", x.count(8), 0);
        CHECK.due("enemies of one that FELL", x.enemies(0), 0);
    }

    private static void falling() {
        TroughTreaty x = Check.told("trough a 5 30 0;horse h 0 0 98 1;horse k 0 5 99 1;horse m 0 5 99 1;law gulp 1;");
        x.go(1);
        CHECK.due("THIRST 99", x.horse(0, 6), 1);
        CHECK.due("it DRANK ahead of falling", x.horse(1, 6), 1);
        x.go(1);
        CHECK.due("THIRST 100", x.horse(0, 6), 0);
        CHECK.due("ON", x.count(8), 2);
        CHECK.due("a led one that FELL", x.lead(0, 3), false);
        Check.text(x, "horse h 0 0 0 1;horse k 1 0 0 1;law fight 33;");
        x.go(3);
        CHECK.due("HURT 99", x.horse(0, 5), 99);
        CHECK.due("ON", x.count(8), 2);
        x.go(1);
        CHECK.due("HURT 132", x.horse(0, 5), 132);
        CHECK.due("FELL", x.count(8), 0);
        x.go(5);
        CHECK.due("who FELL doesn't FIGHT", x.count(6), 4);
        Check.text(x, "trough a 0 50 0;horse h 0 0 99 1;horse k 1 0 1 1;law gulp 0;");
        x.go(2);
        CHECK.due("who FELL is at no TROUGH", x.trough(0, 3), 2);
        CHECK.due("who FELL in (5) fought ahead of it", x.count(6), 1);
    }

    private static void rain() {
        TroughTreaty x = Check.told("trough a 0 50 7;trough b 1 95 9;rain 100;");
        x.go(9);
        CHECK.due("HOUR 9 is to come", x.trough(0, 1), 50);
        x.go(1);
        CHECK.due("it rained", x.trough(0, 1), 57);
        CHECK.due("99 at most", x.trough(1, 1), 99);
        x.go(20);
        CHECK.due("two more", x.trough(0, 1), 71);
        Check.text(x, "trough a 0 50 7;rain 0;");
        x.go(100);
        CHECK.due("no rain", x.trough(0, 1), 50);
        Check.text(x, "trough a 0 50 7;");
        x.go(100);
        CHECK.due("no rain told", x.trough(0, 1), 50);
    }

    private static void bounds() {
        TroughTreaty x = new TroughTreaty();
        CHECK.due("go(-1)", x.go(-1), -1);
        CHECK.due("go(201)", x.go(201), -1);
        CHECK.due("go(0)", x.go(0), 0);
        for (int i = 1; i <= 44; i++) {
            CHECK.due("go(200)", x.go(200), 200L * i);
        }
        CHECK.due("go(199)", x.go(199), 8999);
        CHECK.due("behind 9000", x.go(2), -1);
        CHECK.due("none goes by", x.count(5), 8999);
        CHECK.due("9000", x.go(1), 9000);
        CHECK.due("go(0) at 9000", x.go(0), 9000);
        CHECK.due("go(1) at 9000", x.go(1), -1);
        CHECK.due("ahead of 9000", x.ahead(200, 4, 0), 0);
    }

    private static void sending() {
        TroughTreaty x = Check.told("trough a 4 0 0;trough b 20 0 0;horse h 0 4 0 1;horse k 0 9 99 1;");
        CHECK.due("there", x.send(0, 0), 0);
        CHECK.due("already", x.send(0, 0), -2);
        CHECK.due("another one", x.send(0, 1), 16);
        CHECK.due("back again", x.send(0, 0), 0);
        CHECK.due("from the other side", x.send(1, 0), 5);
        CHECK.due("no such TROUGH", x.send(0, 2), -1);
        CHECK.due("no such TROUGH", x.send(0, -2), -1);
        CHECK.due("no such HORSE", x.send(2, 0), -1);
        CHECK.due("no such HORSE", x.send(-1, 0), -1);
        CHECK.due("its GOAL", x.horse(0, 4), 0);
        x.go(1);
        CHECK.due("FELL, to its GOAL", x.send(1, 0), -1);
        CHECK.due("FELL", x.send(1, 1), -1);
    }

    private static void pumping() {
        TroughTreaty x = Check.told("trough a 4 0 0;trough b 20 90 0;");
        CHECK.due("fill(0, 1)", x.fill(0, 1), 1);
        CHECK.due("fill(0, 98)", x.fill(0, 98), 99);
        CHECK.due("fill(0, 1) at 99", x.fill(0, 1), 99);
        CHECK.due("fill(1, 99)", x.fill(1, 99), 99);
        CHECK.due("undo", x.count(13), 4);
        CHECK.due("fill(0, 0)", x.fill(0, 0), -1);
        CHECK.due("fill(0, 100)", x.fill(0, 100), -1);
        CHECK.due("fill(0, -1)", x.fill(0, -1), -1);
        CHECK.due("fill(2, 5)", x.fill(2, 5), -1);
        CHECK.due("fill(-1, 5)", x.fill(-1, 5), -1);
        CHECK.due("undo", x.count(13), 4);
        CHECK.due("count(9)", x.count(9), 198);
    }

    private static void leading() {
        TroughTreaty x = Check.told("road 9;trough a 4 0 0;horse h 0 4 99 1;");
        CHECK.due("there, without a GOAL", x.lead(0, 4), false);
        CHECK.due("to 0", x.lead(0, 0), true);
        CHECK.due("its PLACE", x.horse(0, 1), 0);
        CHECK.due("to the LENGTH", x.lead(0, 9), true);
        x.send(0, 0);
        CHECK.due("there, with a GOAL", x.lead(0, 9), true);
        CHECK.due("its GOAL", x.horse(0, 4), -2);
        CHECK.due("there again", x.lead(0, 9), false);
        CHECK.due("beyond", x.lead(0, 10), false);
        CHECK.due("below", x.lead(0, -1), false);
        CHECK.due("no such HORSE", x.lead(1, 3), false);
        CHECK.due("no such HORSE", x.lead(-1, 3), false);
        CHECK.due("its PLACE", x.horse(0, 1), 9);
        x.go(1);
        CHECK.due("FELL", x.lead(0, 3), false);
        CHECK.due("undo", x.count(13), 0);
    }

    private static void peace() {
        TroughTreaty x = Check.told("trough a 5 10 0;horse h 0 5 9 1;horse k 3 5 0 1;horse m 2 7 0 1;horse n 1 7 0 1;law dry 0;");
        CHECK.due("not yet", x.peace(0, 3), 0);
        x.go(1);
        CHECK.due("they TALKED", x.peace(0, 3), 1);
        CHECK.due("they TALKED", x.peace(3, 0), 1);
        CHECK.due("they FOUGHT", x.peace(2, 1), 0);
        CHECK.due("never met", x.peace(0, 2), 0);
        x.go(1);
        CHECK.due("then they FOUGHT", x.peace(0, 3), 0);
        x.text(0);
        Check.text(x, "trough a 5 10 0;horse h 0 5 9 1;horse k 3 5 0 1;law dry 0;");
        x.go(1);
        CHECK.due("in this TEXT they never FOUGHT", x.peace(0, 3), 1);
        CHECK.due("alike", x.peace(3, 3), -1);
        CHECK.due("no such SIDE", x.peace(4, 0), -1);
        CHECK.due("no such SIDE", x.peace(0, 4), -1);
        CHECK.due("no such SIDE", x.peace(-1, 0), -1);
        CHECK.due("no such SIDE", x.peace(0, -1), -1);
    }
}
