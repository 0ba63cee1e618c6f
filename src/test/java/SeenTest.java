/** Promises 34 to 37: whose THIRST it was by WATER that was SEEN. */
public final class SeenTest {
    private static final Check CHECK = new Check();
    /** h drinks all its THIRST away in one HOUR: behind it WATER is 98 less its THIRST at first. */
    private static final String TEXT = "trough a 5 99 0;trough b 9 50 7;horse h 0 5 30 1;horse k 1 0 10 1;law gulp 99;rain 50;";

    public static void main(String[] args) {
        seeing();
        thirsts();
        striking();
        knowing();
        fromTheText();
        noSuchOnes();
        CHECK.end();
    }

    private static void seeing() {
        TroughTreaty x = Check.told(TEXT);
        for (int i = 0; i < 12; i++) {
            CHECK.due("see", x.see(1 + i * 5, i % 2, i * 9, i % 3 == 0), 2L * i);
            CHECK.due("strike", x.strike(i), 2L * i + 1);
        }
        CHECK.due("SEEN", x.count(11), 24);
        CHECK.due("a 25th", x.see(1, 0, 0, true), -1);
        CHECK.due("a 25th", x.strike(0), -1);
        CHECK.due("SEEN", x.count(11), 24);
    }

    private static void thirsts() {
        TroughTreaty x = Check.told(TEXT);
        CHECK.due("nothing SEEN", x.thirsts(0), 1023);
        x.see(1, 0, 58, true);
        CHECK.due("40 at most", x.thirsts(0), 0x1f);
        CHECK.due("k doesn't drink, h is as told", x.thirsts(1), 1023);
        x.see(1, 0, 88, false);
        CHECK.due("more than 10", x.thirsts(0), 0x1c);
        x.see(1, 0, 68, false);
        CHECK.due("more than 30", x.thirsts(0), 0x10);
        CHECK.due("h was told with 30", x.thirsts(1), 0);
        x.see(60, 1, 99, false);
        x.see(19, 1, 57, true);
        CHECK.due("as it goes it rains", x.thirsts(0), 0x10);
        x.see(10, 1, 58, true);
        CHECK.due("not so much", x.thirsts(0), 0);
    }

    private static void striking() {
        TroughTreaty x = Check.told(TEXT);
        x.see(1, 0, 58, true);
        x.see(1, 0, 88, false);
        CHECK.due("strike", x.strike(0), 2);
        CHECK.due("the second alone", x.thirsts(0), 0x3fc);
        CHECK.due("a STRIKE is STRUCK", x.strike(2), 3);
        CHECK.due("both", x.thirsts(0), 0x1c);
        CHECK.due("this one, too", x.strike(3), 4);
        CHECK.due("the second alone", x.thirsts(0), 0x3fc);
        CHECK.due("STRUCK twice", x.strike(0), 5);
        CHECK.due("of the second", x.strike(1), 6);
        CHECK.due("none", x.thirsts(0), 1023);
        CHECK.due("what isn't SEEN yet", x.strike(7), -1);
        CHECK.due("below 0", x.strike(-1), -1);
    }

    private static void knowing() {
        TroughTreaty x = Check.told(TEXT);
        CHECK.due("KNOWN by all", x.count(12), 0);
        x.see(1, 0, 58, true);
        x.see(1, 0, 88, false);
        x.strike(0);
        x.strike(2);
        CHECK.due("KNOWN by all", x.count(12), 4);
        CHECK.due("known(0)", x.known(0), true);
        CHECK.due("by 0", x.thirsts(0), 1023);
        CHECK.due("count(12)", x.count(12), 0);
        CHECK.due("known(1)", x.known(1), true);
        CHECK.due("by 1", x.thirsts(0), 0x1f);
        CHECK.due("known(2)", x.known(2), true);
        CHECK.due("by 2", x.thirsts(0), 0x1c);
        CHECK.due("known(3)", x.known(3), true);
        CHECK.due("by 3", x.thirsts(0), 0x3fc);
        CHECK.due("known(5)", x.known(5), false);
        CHECK.due("known(-2)", x.known(-2), false);
        CHECK.due("it stays", x.count(12), 3);
        CHECK.due("known(4)", x.known(4), true);
        CHECK.due("by 4", x.thirsts(0), 0x1c);
        x.see(1, 0, 98, true);
        CHECK.due("by 4 as ahead", x.thirsts(0), 0x1c);
        CHECK.due("count(12)", x.count(12), 4);
        CHECK.due("known(-1)", x.known(-1), true);
        CHECK.due("by all", x.thirsts(0), 0);
        CHECK.due("count(12)", x.count(12), 5);
        x.strike(4);
        CHECK.due("by those to come", x.thirsts(0), 0x1c);
        CHECK.due("count(12)", x.count(12), 6);
    }

    private static void fromTheText() {
        TroughTreaty x = Check.told(TEXT);
        x.see(1, 0, 58, true);
        x.fill(0, 99);
        x.lead(0, 0);
        x.go(30);
        CHECK.due("nothing done by call counts", x.thirsts(0), 0x1f);
        CHECK.due("all stays", x.count(5), 30);
        CHECK.due("what was SEEN stays", x.count(11), 1);
        // Numbers by chance don't count: as it goes it doesn't rain.
        Check.text(x, "trough a 5 9 9;horse h 0 0 0 1;rain 49;");
        x.see(60, 0, 10, false);
        CHECK.due("no rain", x.thirsts(0), 1023);
        // LAPS do, and who FELL drinks no more.
        Check.text(x, "trough a 15 99 0;horse h 0 5 5 1;lap h a 0;law gulp 99;");
        x.see(60, 0, 99, true);
        CHECK.due("THIRST 100 there, and it drinks ahead of falling", x.thirsts(0), 0);
        Check.text(x, "trough a 16 99 0;horse h 0 5 5 1;lap h a 0;law gulp 99;");
        x.see(60, 0, 99, true);
        CHECK.due("with 90 it FELL on its way", x.thirsts(0), 0x200);
    }

    private static void noSuchOnes() {
        TroughTreaty x = Check.told(TEXT);
        CHECK.due("0 HOURS", x.see(0, 0, 0, true), -1);
        CHECK.due("61 HOURS", x.see(61, 0, 0, true), -1);
        CHECK.due("TROUGH 2", x.see(1, 2, 0, true), -1);
        CHECK.due("TROUGH -1", x.see(1, -1, 0, true), -1);
        CHECK.due("water 100", x.see(1, 0, 100, true), -1);
        CHECK.due("water -1", x.see(1, 0, -1, true), -1);
        CHECK.due("none SEEN", x.count(11), 0);
        CHECK.due("strike(0)", x.strike(0), -1);
        CHECK.due("60 HOURS", x.see(60, 1, 99, false), 0);
        CHECK.due("HORSE 2", x.thirsts(2), -1);
        CHECK.due("HORSE -1", x.thirsts(-1), -1);
    }
}
