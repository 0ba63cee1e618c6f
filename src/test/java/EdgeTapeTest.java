import java.nio.charset.StandardCharsets;

/** The boundaries that promises 1 to 5 name, a sentence each. */
public final class EdgeTapeTest {
    private static final Check CHECK = new Check();
    private static final int BLANKS = 0x20202020;

    public static void main(String[] args) {
        newObject();
        feedHighestFirst();
        feedSevenHundred();
        feedBeyond();
        textOfFirstBytes();
        textEmptiesTheTape();
        textBeginsAnew();
        textNumbersBeginAnew();
        textWithFault();
        textRefused();
        faultOfLatest();
        faultOtherWhat();
        namedByLetters();
        namedNone();
        CHECK.end();
    }

    private static void newObject() {
        CHECK.about("1: a TEXT without LINES");
        int[] counts = {0, 0, 0, 20, 0, 0, 0, 0, 0, 0, 0, 0, 0, 0};
        TroughTreaty x = new TroughTreaty();
        for (int what = 0; what < counts.length; what++) {
            CHECK.due("count(" + what + ")", x.count(what), counts[what]);
        }
        CHECK.due("as with text(0)", Picture.of(new TroughTreaty()).equals(Picture.of(Check.told(""))), true);
        CHECK.about("1: an empty TAPE");
        CHECK.due("text(1)", x.text(1), -2);
        CHECK.due("feed", x.feed(BLANKS, BLANKS, BLANKS, BLANKS, BLANKS), 20);
        CHECK.due("text(0) of a new one", new TroughTreaty().text(0), 0);
    }

    private static void feedHighestFirst() {
        CHECK.about("2: twenty bytes come behind the TAPE, four of each number, the highest first");
        TroughTreaty x = new TroughTreaty();
        x.feed(('s' << 24) + ('e' << 16) + ('e' << 8) + 'd', (' ' << 24) + ('4' << 16) + (';' << 8) + 'r',
                ('a' << 24) + ('i' << 16) + ('n' << 8) + ' ', ('9' << 24) + ('0' << 16) + (';' << 8) + 'l',
                ('a' << 24) + ('w' << 16) + (' ' << 8) + 'd');
        CHECK.due("feed", x.feed(('r' << 24) + ('y' << 16) + (' ' << 8) + '1', (';' << 24) + 0x202020, BLANKS, BLANKS, BLANKS), 40);
        CHECK.due("text(25)", x.text(25), 3);
        CHECK.due("rain 90", x.staysDry(1, 1), 10);
        CHECK.due("law dry", x.count(4), 1);
        // A number below 0 has a highest byte beyond 127; each byte is looked at by itself.
        for (int at = 0; at < 20; at++) {
            byte[] bytes = " ".repeat(20).getBytes(StandardCharsets.ISO_8859_1);
            bytes[at] = (byte) 255;
            Check.feed(x, bytes);
            CHECK.due("text(20)", x.text(20), -1);
            CHECK.due("its place", x.fault(1), at);
        }
        x.feed(-1, Integer.MIN_VALUE, BLANKS, BLANKS, BLANKS);
        CHECK.due("-1", x.text(20), -1);
        CHECK.due("its place", x.fault(1), 0);
    }

    private static TroughTreaty fed(int times) {
        TroughTreaty x = Check.told("rain 50;");
        for (int i = 0; i < times; i++) {
            x.feed(BLANKS, BLANKS, BLANKS, BLANKS, BLANKS);
        }
        return x;
    }

    private static void feedSevenHundred() {
        CHECK.about("2: how many it has");
        TroughTreaty x = new TroughTreaty();
        for (int i = 1; i <= 35; i++) {
            CHECK.due("feed", x.feed(BLANKS, BLANKS, BLANKS, BLANKS, BLANKS), i * 20);
        }
        CHECK.about("2: 700 at most");
        CHECK.due("text(700)", fed(35).text(700), 0);
        CHECK.due("text(701)", fed(35).text(701), -2);
    }

    private static void feedBeyond() {
        CHECK.about("2: NONE, and none come, if it would have more than 700");
        CHECK.leavesAll(() -> fed(35), "feed", x -> x.feed(-1, -1, -1, -1, -1), -1);
        TroughTreaty x = fed(35);
        CHECK.due("a 36th", x.feed(-1, -1, -1, -1, -1), -1);
        CHECK.due("a 37th", x.feed(-1, -1, -1, -1, -1), -1);
        CHECK.due("text(720)", x.text(720), -2);
        CHECK.due("text(700): blanks alone", x.text(700), 0);
        CHECK.due("from the start again", x.feed(BLANKS, BLANKS, BLANKS, BLANKS, BLANKS), 20);
        CHECK.due("text(20)", x.text(20), 0);
        TroughTreaty last = fed(34);
        CHECK.due("the last twenty", last.feed(BLANKS, BLANKS, BLANKS, BLANKS, 0x20202021), 700);
        CHECK.due("text(700)", last.text(700), -1);
        CHECK.due("the last byte", last.fault(1), 699);
    }

    private static void textOfFirstBytes() {
        CHECK.about("3: the TAPE's first n bytes are the TEXT");
        String text = "rain 1;seed 2;road 3";
        int[] lines = {0, -1, -1, -1, -1, -1, -1, 1, -1, -1, -1, -1, -1, -1, 2, -1, -1, -1, -1, -1, -1};
        for (int n = 0; n <= 20; n++) {
            TroughTreaty x = new TroughTreaty();
            Check.feed(x, text.getBytes(StandardCharsets.ISO_8859_1));
            CHECK.due("text(" + n + ")", x.text(n), lines[n]);
        }
        TroughTreaty x = new TroughTreaty();
        Check.feed(x, "road 55;".getBytes());
        CHECK.due("in the midst of a number", x.text(6), -1);
        CHECK.due("its place", x.fault(1), 6);
        Check.feed(x, "roads 5;".getBytes());
        CHECK.due("in the midst of a word", x.text(4), -1);
        CHECK.due("more must come", x.fault(1), 4);
        Check.feed(x, "law dry 1".getBytes());
        CHECK.due("a number at the end", x.text(9), -1);
        CHECK.due("more must come", x.fault(1), 9);
        Check.feed(x, "road 123;".getBytes());
        CHECK.due("road 12", x.text(7), -1);
        CHECK.due("12 is a LENGTH", x.fault(0), 1);
        CHECK.due("more must come", x.fault(1), 7);
        Check.feed(x, "road 5;9;".getBytes());
        CHECK.due("what comes behind isn't looked at", x.text(7), 1);
        CHECK.due("LENGTH", x.count(3), 5);
        Check.feed(x, "law dry 1<=1;".getBytes());
        CHECK.due("a sign that is cut", x.text(10), -1);
        CHECK.due("its place", x.fault(1), 10);
    }

    private static void textEmptiesTheTape() {
        CHECK.about("3: (it is empty then)");
        TroughTreaty x = fed(35);
        CHECK.due("text(0)", x.text(0), 0);
        CHECK.due("text(1)", x.text(1), -2);
        CHECK.due("feed", x.feed(0x21212121, BLANKS, BLANKS, BLANKS, BLANKS), 20);
        CHECK.due("a FAULT", x.text(1), -1);
        CHECK.due("text(1)", x.text(1), -2);
        CHECK.due("feed", x.feed(BLANKS, BLANKS, BLANKS, BLANKS, BLANKS), 20);
    }

    private static void textBeginsAnew() {
        CHECK.about("3: HOUR 0, no GOALS, no HURT, nothing SEEN, all KNOWN, no IMAGE, nothing to undo then");
        TroughTreaty x = Scenes.busy();
        x.text(0);
        Check.text(x, Scenes.TEXT);
        String anew = Picture.of(x);
        String fresh = Picture.of(Check.told(Scenes.TEXT));
        CHECK.due("as a new object, up to " + Picture.firstUnlike(anew, fresh), anew.equals(fresh), true);
        TroughTreaty each = Check.told("trough a 5 9 1;horse h 0 5 9 1;horse k 1 5 0 1;");
        each.send(0, 0);
        each.see(1, 0, 9, true);
        each.known(0);
        each.keep();
        each.go(5);
        each.fill(0, 1);
        CHECK.due("HURT", each.horse(0, 5) > 0, true);
        CHECK.due("text", Check.text(each, "trough a 5 9 1;horse h 0 5 9 1;horse k 1 5 0 1;"), 3);
        CHECK.due("HOUR", each.count(5), 0);
        CHECK.due("GOAL", each.horse(0, 4), -2);
        CHECK.due("HURT", each.horse(0, 5), 0);
        CHECK.due("SEEN", each.count(11), 0);
        CHECK.due("IMAGE", each.back(), -1);
        CHECK.due("undo", each.undo(), -1);
        each.see(1, 0, 99, true);
        CHECK.due("all KNOWN", each.thirsts(0), 0);
        Check.text(each, "trough a 5 9 1;horse h 0 5 9 1;horse k 1 5 0 1;");
        each.go(1);
        CHECK.due("DRANK", each.horse(0, 7), 9);
        CHECK.due("PEACE: in this TEXT they never FOUGHT", each.peace(0, 1), 1);
        Check.text(each, "horse h 0 5 9 1;horse k 1 5 0 1;");
        CHECK.due("DRANK 0 at first", each.horse(0, 7), 0);
        CHECK.due("PEACE: in this TEXT they never TALKED", each.peace(0, 1), 0);
        Check.text(each, "road 9;rain 60;seed 99;law dry 5;law gulp 5;law fight 5;");
        Check.text(each, "");
        CHECK.due("without LINES", Picture.of(each).equals(Picture.of(new TroughTreaty())), true);
    }

    private static void textNumbersBeginAnew() {
        CHECK.about("3: numbers, at first the seed");
        String text = "trough a 0 0 1;trough b 1 0 1;rain 50;seed 12;";
        TroughTreaty x = Check.told(text);
        x.go(10);
        Check.text(x, text);
        CHECK.due("text", Picture.of(x).equals(Picture.of(Check.told(text))), true);
        x = Check.told("rain 77;seed 12;");
        text = "trough a 0 0 1;trough b 1 0 1;rain 50;";
        Check.text(x, text);
        CHECK.due("no seed told", Picture.of(x).equals(Picture.of(Check.told(text))), true);
    }

    private static TroughTreaty faulty(String text) {
        TroughTreaty x = Scenes.busy();
        x.text(0);
        Check.text(x, Scenes.TEXT);
        x.see(1, 0, 30, true);
        x.keep();
        x.go(3);
        x.send(0, 1);
        Check.text(x, text);
        return x;
    }

    private static void textWithFault() {
        CHECK.about("3: NONE with a FAULT, all stays");
        // Each of the texts tells something else ahead of its FAULT, the place of which alone is unlike.
        String without = Picture.of(faulty("!"));
        for (String text : new String[] {"road 9;!", "trough z 1 1 1;!", "horse z 0 1 1 1;!", "rain 99;seed 7;!",
            "law dry 5;law gulp 5;law fight 5;!", "trough z 1 1 1;horse z 0 1 1 1;lap z z 0;!"}) {
            TroughTreaty x = faulty(text);
            CHECK.due(text, x.fault(1), text.length() - 1);
            String with = Picture.of(x).replaceFirst("fault1=[0-9]+", "fault1=0");
            CHECK.due(text + ": all stays, up to " + Picture.firstUnlike(without, with), with.equals(without), true);
        }
        TroughTreaty named = Check.told("trough a 1 1 1;horse h 0 1 1 1;");
        Check.text(named, "trough z 1 1 1;horse y 0 1 1 1;!");
        CHECK.due("names stay", named.named(0, Check.letters("a")), 0);
        CHECK.due("names stay", named.named(1, Check.letters("h")), 0);
        CHECK.due("no other ones", named.named(0, Check.letters("z")), -1);
        CHECK.due("no other ones", named.named(1, Check.letters("y")), -1);
    }

    private static void textRefused() {
        CHECK.about("3: -2, and the TAPE stays: there are not so many");
        CHECK.leavesAll(Scenes::busy, "text(21)", x -> x.text(21), -2);
        CHECK.leavesAll(Scenes::busy, "text(MAX)", x -> x.text(Integer.MAX_VALUE), -2);
        CHECK.leavesAll(TroughTreaty::new, "text(1) of an empty TAPE", x -> x.text(1), -2);
        CHECK.due("text(20)", Scenes.busy().text(20), 1);
        CHECK.about("3: -2, and the TAPE stays: n is below 0");
        CHECK.leavesAll(Scenes::busy, "text(-1)", x -> x.text(-1), -2);
        CHECK.leavesAll(Scenes::busy, "text(MIN)", x -> x.text(Integer.MIN_VALUE), -2);
        CHECK.due("text(0)", Scenes.busy().text(0), 0);
        TroughTreaty x = new TroughTreaty();
        Check.feed(x, "rain 90;".getBytes());
        x.text(-1);
        x.text(21);
        CHECK.due("its bytes, too", x.text(8), 1);
        CHECK.due("rain 90", x.staysDry(1, 1), 10);
    }

    private static void faultOfLatest() {
        CHECK.about("4: of the latest text() that was not -2");
        TroughTreaty x = new TroughTreaty();
        CHECK.due("new: fault(0)", x.fault(0), 0);
        CHECK.due("new: fault(1)", x.fault(1), -1);
        x.text(1);
        CHECK.due("behind -2: fault(0)", x.fault(0), 0);
        Check.text(x, "road 61;");
        CHECK.due("fault(0)", x.fault(0), 2);
        CHECK.due("fault(1)", x.fault(1), 5);
        x.text(1);
        x.text(-1);
        CHECK.due("behind -2: fault(0)", x.fault(0), 2);
        CHECK.due("behind -2: fault(1)", x.fault(1), 5);
        Check.text(x, "lap q");
        CHECK.due("another one: fault(0)", x.fault(0), 4);
        CHECK.due("another one: fault(1)", x.fault(1), 4);
        CHECK.about("4: its FAULT (0), its place (NONE without)");
        Check.text(x, "road 60;");
        CHECK.due("fault(0)", x.fault(0), 0);
        CHECK.due("fault(1)", x.fault(1), -1);
        Check.text(x, "!");
        CHECK.due("at 0: fault(1)", x.fault(1), 0);
        x.text(0);
        CHECK.due("text(0): fault(0)", x.fault(0), 0);
        CHECK.due("text(0): fault(1)", x.fault(1), -1);
    }

    private static void faultOtherWhat() {
        CHECK.about("4: NONE for another what");
        for (int what : new int[] {-1, 2, 3, Integer.MIN_VALUE, Integer.MAX_VALUE}) {
            CHECK.leavesAll(Scenes::busy, "fault(" + what + ")", x -> x.fault(what), -1);
        }
        CHECK.due("fault(0)", Scenes.busy().fault(0), 2);
        CHECK.due("fault(1)", Scenes.busy().fault(1), 5);
    }

    private static TroughTreaty withNames() {
        return Check.told("trough a 0 1 1;trough zzzzzz 1 1 1;trough ab 2 1 1;horse z 0 0 0 1;horse abcdef 0 0 0 1;horse aa 0 0 0 1;");
    }

    private static void namedByLetters() {
        CHECK.about("5: 5 bits each (a is 1; the first one highest of six, 0 behind the last one)");
        TroughTreaty x = withNames();
        CHECK.due("a", x.named(0, 1 << 25), 0);
        CHECK.due("zzzzzz", x.named(0, 26 << 25 | 26 << 20 | 26 << 15 | 26 << 10 | 26 << 5 | 26), 1);
        CHECK.due("ab", x.named(0, 1 << 25 | 2 << 20), 2);
        CHECK.due("z", x.named(1, 26 << 25), 0);
        CHECK.due("abcdef", x.named(1, 1 << 25 | 2 << 20 | 3 << 15 | 4 << 10 | 5 << 5 | 6), 1);
        CHECK.due("aa", x.named(1, 1 << 25 | 1 << 20), 2);
    }

    private static void namedNone() {
        CHECK.about("5: NONE: there is none such");
        int[] letters = {0, 1, 27 << 25, 2 << 25, 1 << 25 | 1 << 15, 1 << 25 | 2 << 20 | 1, 1 << 30 | 1 << 25, 1 << 31 | 1 << 25,
            -1, Integer.MIN_VALUE, Integer.MAX_VALUE};
        for (int bits : letters) {
            CHECK.leavesAll(EdgeTapeTest::withNames, "named(0, " + bits + ")", x -> x.named(0, bits), -1);
            CHECK.leavesAll(EdgeTapeTest::withNames, "named(1, " + bits + ")", x -> x.named(1, bits), -1);
        }
        CHECK.due("a HORSE of a TROUGH's name", withNames().named(1, 1 << 25), -1);
        CHECK.due("a TROUGH of a HORSE's name", withNames().named(0, 26 << 25), -1);
        for (int what : new int[] {-1, 2, Integer.MIN_VALUE, Integer.MAX_VALUE}) {
            CHECK.leavesAll(EdgeTapeTest::withNames, "named(" + what + ", a)", x -> x.named(what, 1 << 25), -1);
        }
        CHECK.due("no names at all", new TroughTreaty().named(0, 0), -1);
        CHECK.due("no names at all", new TroughTreaty().named(1, 0), -1);
    }
}
