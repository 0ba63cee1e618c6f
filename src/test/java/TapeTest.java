/** Promises 1 to 5: a new object, feed, text, fault, named. */
public final class TapeTest {
    private static final Check CHECK = new Check();

    public static void main(String[] args) {
        newObject();
        feeding();
        texts();
        resets();
        names();
        CHECK.end();
    }

    private static void newObject() {
        TroughTreaty x = new TroughTreaty();
        int[] counts = {0, 0, 0, 20, 0, 0, 0, 0, 0, 0, 0, 0, 0, 0};
        for (int what = 0; what < counts.length; what++) {
            CHECK.due("new: count(" + what + ")", x.count(what), counts[what]);
        }
        CHECK.due("new: fault(0)", x.fault(0), 0);
        CHECK.due("new: fault(1)", x.fault(1), -1);
        CHECK.due("new: text(1)", x.text(1), -2);
        CHECK.due("new: text(0)", x.text(0), 0);
        CHECK.due("new: back()", x.back(), -1);
        CHECK.due("NONE", TroughTreaty.NONE, -1);
    }

    private static void feeding() {
        TroughTreaty x = new TroughTreaty();
        for (int i = 1; i <= 35; i++) {
            CHECK.due("feed " + i, x.feed(0x20202020, 0x20202020, 0x20202020, 0x20202020, 0x20202020), 20L * i);
        }
        CHECK.due("feed beyond 700", x.feed(0, 0, 0, 0, 0), -1);
        CHECK.due("text(701)", x.text(701), -2);
        CHECK.due("text(700) of blanks", x.text(700), 0);
        CHECK.due("the tape is empty", x.feed(0x726f6164, 0x20373b0a, 0x73656564, 0x31323b20, 0x20202020), 20);
        // The highest byte comes first: "road 7;" with a new line, then bytes of the other numbers.
        CHECK.due("text(8)", x.text(8), 1);
        CHECK.due("count(3)", x.count(3), 7);
    }

    private static void texts() {
        TroughTreaty x = new TroughTreaty();
        Check.feed(x, "road 9;".getBytes());
        CHECK.due("text(-1)", x.text(-1), -2);
        CHECK.due("text(21)", x.text(21), -2);
        CHECK.due("text(7), the tape stayed", x.text(7), 1);
        CHECK.due("LENGTH", x.count(3), 9);
        CHECK.due("text(1), the tape is empty", x.text(1), -2);
        CHECK.due("lines without blanks", Check.text(x, "road5;trough a1 2 3;horse b0 1 2 3;lap b a4;"), 4);
        CHECK.due("lap", x.count(2), 1);
        CHECK.due("a FAULT", Check.text(x, "road 3"), -1);
        CHECK.due("its kind", x.fault(0), 1);
        CHECK.due("its place", x.fault(1), 6);
        CHECK.due("fault(2)", x.fault(2), -1);
        CHECK.due("fault(-1)", x.fault(-1), -1);
        CHECK.due("all stays", x.count(3), 5);
        CHECK.due("the tape is empty behind a FAULT", x.text(1), -2);
        CHECK.due("-2 leaves the FAULT", x.fault(1), 6);
        CHECK.due("no FAULT", Check.text(x, "  \n seed 5 ; \n"), 1);
        CHECK.due("fault(0)", x.fault(0), 0);
        CHECK.due("fault(1)", x.fault(1), -1);
        CHECK.due("LENGTH without road", x.count(3), 20);
        CHECK.due("first bytes alone", firstBytes(), 2);
    }

    private static int firstBytes() {
        TroughTreaty x = new TroughTreaty();
        Check.feed(x, "rain 1;seed 2;seed 3;".getBytes());
        return x.text(14);
    }

    private static void resets() {
        String text = "trough a 0 50 5;horse h 0 0 20 1;horse k 1 0 0 1;lap h a 0;rain 100;";
        TroughTreaty x = Check.told("road 9;rain 60;seed 99;law dry 1 + 1;law gulp 2;");
        CHECK.due("anew: LINES", Check.text(x, "trough a 0 0 9;law dry 3;"), 2);
        CHECK.due("anew: LENGTH", x.count(3), 20);
        CHECK.due("anew: KNOTS", x.count(4), 1);
        CHECK.due("anew: rain", x.staysDry(1, 0), 1);
        CHECK.due("anew: rain as it goes", x.ahead(10, 3, 0), 0);
        Check.text(x, text);
        x.keep();
        x.see(1, 0, 5, true);
        x.see(1, 0, 5, true);
        x.known(1);
        x.go(15);
        x.send(1, 0);
        x.fill(0, 3);
        CHECK.due("ahead: undo", x.count(13), 2);
        CHECK.due("a FAULT", Check.text(x, "!"), -1);
        CHECK.due("stays: HOUR", x.count(5), 15);
        CHECK.due("stays: undo", x.count(13), 2);
        CHECK.due("stays: SEEN", x.count(11), 2);
        CHECK.due("stays: KNOWN", x.count(12), 1);
        CHECK.due("anew", Check.text(x, text), 5);
        int[] counts = {1, 2, 1, 20, 0, 0, 0, 0, 2, 50, 0, 0, 0, 0};
        for (int what = 0; what < counts.length; what++) {
            CHECK.due("anew: count(" + what + ")", x.count(what), counts[what]);
        }
        CHECK.due("anew: GOAL", x.horse(1, 4), -2);
        CHECK.due("anew: HURT", x.horse(1, 5), 0);
        CHECK.due("anew: DRANK", x.horse(0, 7), 0);
        CHECK.due("anew: peace", x.peace(0, 1), 0);
        CHECK.due("anew: back", x.back(), -1);
        CHECK.due("anew: undo", x.undo(), -1);
        x.see(1, 0, 5, true);
        CHECK.due("anew: KNOWN by all to come", x.count(12), 1);
    }

    private static void names() {
        TroughTreaty x = Check.told("trough a 0 1 1;trough abcdef 1 1 1;horse z 0 0 0 1;horse a 0 0 0 1;horse zz 0 0 0 1;");
        CHECK.due("a is 1, highest of six", Check.letters("a"), 1 << 25);
        CHECK.due("trough a", x.named(0, Check.letters("a")), 0);
        CHECK.due("trough abcdef", x.named(0, Check.letters("abcdef")), 1);
        CHECK.due("trough z", x.named(0, Check.letters("z")), -1);
        CHECK.due("horse z", x.named(1, Check.letters("z")), 0);
        CHECK.due("horse a", x.named(1, Check.letters("a")), 1);
        CHECK.due("horse zz", x.named(1, Check.letters("zz")), 2);
        CHECK.due("horse 0", x.named(1, 0), -1);
        CHECK.due("a lowest", x.named(0, 1), -1);
        CHECK.due("beyond 30 bits", x.named(0, 1 << 30 | 1 << 25), -1);
        CHECK.due("what 2", x.named(2, Check.letters("a")), -1);
        CHECK.due("what -1", x.named(-1, Check.letters("a")), -1);
        Check.text(x, "horse k 0 0 0 1;");
        CHECK.due("names of an earlier text", x.named(0, Check.letters("a")), -1);
        CHECK.due("names of an earlier text", x.named(1, Check.letters("a")), -1);
    }
}
