import java.util.function.Supplier;

/** The boundaries that promises 34 to 37 name, a sentence each. */
public final class EdgeSeenTest {
    private static final Check CHECK = new Check();
    private static final int MIN = Integer.MIN_VALUE;
    private static final int MAX = Integer.MAX_VALUE;
    /** h drinks all its THIRST away in HOUR 0: behind it WATER is 99 less its THIRST at first. */
    private static final String TEXT = "trough a 5 99 0;trough b 9 0 1;horse h 0 5 30 1;horse k 1 0 10 1;law gulp 99;law dry 0;rain 100;";

    public static void main(String[] args) {
        seeNumbered();
        seeTwentyFour();
        seeHours();
        seeWater();
        seeAtLeastOrLess();
        seeRefused();
        strikeNumbered();
        strikeTwentyFour();
        strikeOfStrikes();
        strikeRefused();
        knownFirstOnes();
        knownToCome();
        knownRefused();
        thirstsBits();
        thirstsFromTheText();
        thirstsOfOneInPlace();
        thirstsRefused();
        CHECK.end();
    }

    private static TroughTreaty told() {
        return Check.told(TEXT);
    }

    private static void seeNumbered() {
        CHECK.about("34: SEEN, numbered from 0 on: its number");
        TroughTreaty x = told();
        CHECK.due("none", x.count(11), 0);
        for (int i = 0; i < 24; i++) {
            CHECK.due("see", x.see(1, 0, 0, true), i);
            CHECK.due("SEEN", x.count(11), i + 1);
        }
    }

    private static void seeTwentyFour() {
        CHECK.about("34: NONE: there are 24");
        CHECK.leavesAll(Scenes::full, "see(1, 0, 99, true)", x -> x.see(1, 0, 99, true), -1);
        TroughTreaty x = Scenes.full();
        x.see(1, 0, 99, true);
        CHECK.due("SEEN", x.count(11), 24);
        TroughTreaty one = Check.told(TEXT);
        for (int i = 0; i < 23; i++) {
            one.see(1, 0, 0, true);
        }
        CHECK.due("the 24th", one.see(1, 0, 99, true), 23);
        CHECK.due("it counts", one.thirsts(0), 1);
        CHECK.due("the 25th", one.see(1, 0, 98, false), -1);
        CHECK.due("it counts not", one.thirsts(0), 1);
        Check.text(one, TEXT);
        CHECK.due("a TEXT forgets them", one.see(1, 0, 0, true), 0);
    }

    private static void seeHours() {
        CHECK.about("34: behind so many HOURS 1 .. 60");
        // WATER of b is 1 more behind each tenth HOUR.
        int[] hours = {1, 9, 10, 19, 20, 59, 60};
        for (int hour : hours) {
            TroughTreaty fits = told();
            CHECK.due("see(" + hour + ")", fits.see(hour, 1, hour / 10, true), 0);
            CHECK.due("so much behind " + hour, fits.thirsts(0), 1023);
            TroughTreaty fitsNot = told();
            fitsNot.see(hour, 1, hour / 10 + 1, true);
            CHECK.due("not more behind " + hour, fitsNot.thirsts(0), 0);
        }
        for (int bad : new int[] {0, -1, 61, MIN, MAX}) {
            CHECK.due("see(" + bad + ")", told().see(bad, 1, 0, true), -1);
        }
    }

    private static void seeWater() {
        CHECK.about("34: WATER of a TROUGH was so much 0 .. 99");
        CHECK.due("0", told().see(1, 0, 0, true), 0);
        CHECK.due("99", told().see(1, 0, 99, true), 0);
        CHECK.due("-1", told().see(1, 0, -1, true), -1);
        CHECK.due("100", told().see(1, 0, 100, true), -1);
        TroughTreaty x = told();
        x.see(1, 0, 99, true);
        CHECK.due("99 at least: THIRST 0", x.thirsts(0), 1);
        x = told();
        x.see(1, 0, 99, false);
        CHECK.due("less than 99: all but THIRST 0", x.thirsts(0), 1022);
        x = told();
        x.see(1, 0, 0, true);
        CHECK.due("0 at least: all", x.thirsts(0), 1023);
        x = told();
        x.see(1, 0, 0, false);
        CHECK.due("less than 0: none", x.thirsts(0), 0);
    }

    private static void seeAtLeastOrLess() {
        CHECK.about("SEEN: so much at least, or less");
        int[] water = {49, 48, 50, 9, 8, 10};
        int[] atLeast = {0x3f, 0x3f, 0x1f, 0x3ff, 0x3ff, 0x1ff};
        for (int i = 0; i < water.length; i++) {
            TroughTreaty x = told();
            x.see(1, 0, water[i], true);
            CHECK.due(water[i] + " at least", x.thirsts(0), atLeast[i]);
            x = told();
            x.see(1, 0, water[i], false);
            CHECK.due("less than " + water[i], x.thirsts(0), 1023 - atLeast[i]);
        }
    }

    private static void seeRefused() {
        CHECK.about("34: NONE: no such ones");
        for (int bad : new int[] {0, -1, 61, MIN, MAX}) {
            CHECK.leavesAll(Scenes::busy, "see(" + bad + ", 0, 99, true)", x -> x.see(bad, 0, 99, true), -1);
        }
        for (int bad : new int[] {-1, 2, MIN, MAX}) {
            CHECK.leavesAll(Scenes::busy, "see(1, " + bad + ", 99, true)", x -> x.see(1, bad, 99, true), -1);
        }
        for (int bad : new int[] {-1, 100, MIN, MAX}) {
            CHECK.leavesAll(Scenes::busy, "see(1, 0, " + bad + ", true)", x -> x.see(1, 0, bad, true), -1);
            CHECK.leavesAll(Scenes::busy, "see(1, 0, " + bad + ", false)", x -> x.see(1, 0, bad, false), -1);
        }
        CHECK.due("no TROUGHS", new TroughTreaty().see(1, 0, 0, true), -1);
        CHECK.due("the last TROUGH", Scenes.busy().see(60, 1, 99, true), 5);
    }

    private static void strikeNumbered() {
        CHECK.about("35: a STRIKE: its number");
        TroughTreaty x = told();
        x.see(1, 0, 50, true);
        CHECK.due("strike(0)", x.strike(0), 1);
        CHECK.due("strike(1)", x.strike(1), 2);
        CHECK.due("strike(0) again", x.strike(0), 3);
        CHECK.due("see", x.see(1, 0, 50, true), 4);
        CHECK.due("strike(4)", x.strike(4), 5);
        CHECK.due("SEEN", x.count(11), 6);
    }

    private static void strikeTwentyFour() {
        CHECK.about("35: NONE: there are 24");
        CHECK.leavesAll(Scenes::full, "strike(0)", x -> x.strike(0), -1);
        CHECK.leavesAll(Scenes::full, "strike(23)", x -> x.strike(23), -1);
        TroughTreaty x = told();
        for (int i = 0; i < 22; i++) {
            x.see(1, 0, 0, true);
        }
        CHECK.due("the 23rd", x.see(1, 0, 0, false), 22);
        CHECK.due("none", x.thirsts(0), 0);
        CHECK.due("the 24th", x.strike(22), 23);
        CHECK.due("it counts", x.thirsts(0), 1023);
        CHECK.due("the 25th", x.strike(23), -1);
        CHECK.due("it counts not", x.thirsts(0), 1023);
    }

    private static void strikeOfStrikes() {
        CHECK.about("SEEN: a STRIKE may be STRUCK: then it doesn't count; asked from the last one on");
        TroughTreaty x = told();
        x.see(1, 0, 0, false);
        CHECK.due("not STRUCK", x.thirsts(0), 0);
        // Each one strikes the STRIKE ahead of it.
        for (int i = 0; i < 23; i++) {
            CHECK.due("strike(" + i + ")", x.strike(i), i + 1);
            CHECK.due("behind " + (i + 1), x.thirsts(0), i % 2 == 0 ? 1023 : 0);
        }
        TroughTreaty twice = told();
        twice.see(1, 0, 0, false);
        twice.strike(0);
        twice.strike(0);
        CHECK.due("STRUCK twice", twice.thirsts(0), 1023);
        twice.strike(1);
        CHECK.due("by the other one yet", twice.thirsts(0), 1023);
        twice.strike(2);
        CHECK.due("by none", twice.thirsts(0), 0);
    }

    private static void strikeRefused() {
        CHECK.about("35: NONE: no such one SEEN");
        for (int bad : new int[] {-1, 5, 6, 24, MIN, MAX}) {
            CHECK.leavesAll(Scenes::busy, "strike(" + bad + ")", x -> x.strike(bad), -1);
        }
        CHECK.due("the last one", Scenes.busy().strike(4), 5);
        CHECK.leavesAll(TroughTreaty::new, "strike(0)", x -> x.strike(0), -1);
        TroughTreaty x = told();
        CHECK.due("itself", x.strike(0), -1);
        x.see(1, 0, 0, true);
        CHECK.due("itself", x.strike(1), -1);
        CHECK.due("the first", x.strike(0), 1);
    }

    private static Supplier<TroughTreaty> three() {
        return () -> {
            TroughTreaty x = told();
            x.see(1, 0, 50, true);
            x.see(1, 0, 70, false);
            x.strike(0);
            return x;
        };
    }

    private static void knownFirstOnes() {
        CHECK.about("36: KNOWN by n: the first n that aren't STRUCK by one of these");
        int[] thirsts = {1023, 0x1f, 0x18, 0x3f8};
        for (int n = 0; n <= 3; n++) {
            TroughTreaty x = three().get();
            CHECK.due("known(" + n + ")", x.known(n), true);
            CHECK.due("by " + n, x.thirsts(0), thirsts[n]);
            CHECK.due("count(12)", x.count(12), n);
            CHECK.due("SEEN", x.count(11), 3);
        }
        TroughTreaty x = three().get();
        CHECK.due("all at first", x.thirsts(0), thirsts[3]);
        CHECK.due("count(12)", x.count(12), 3);
    }

    private static void knownToCome() {
        CHECK.about("36: (-1: by all, also those to come)");
        TroughTreaty x = three().get();
        x.known(3);
        x.see(1, 0, 0, false);
        CHECK.due("by 3", x.thirsts(0), 0x3f8);
        CHECK.due("count(12)", x.count(12), 3);
        CHECK.due("known(-1)", x.known(-1), true);
        CHECK.due("by 4", x.thirsts(0), 0);
        CHECK.due("count(12)", x.count(12), 4);
        x.strike(3);
        CHECK.due("by 5", x.thirsts(0), 0x3f8);
        CHECK.due("count(12)", x.count(12), 5);
        TroughTreaty none = told();
        CHECK.due("known(0) of none", none.known(0), true);
        none.see(1, 0, 0, false);
        CHECK.due("by 0", none.thirsts(0), 1023);
        CHECK.due("known(-1)", none.known(-1), true);
        CHECK.due("by all", none.thirsts(0), 0);
    }

    private static void knownRefused() {
        CHECK.about("36: false: no such n");
        for (int bad : new int[] {-2, 6, 25, MIN, MAX}) {
            CHECK.leavesAll(Scenes::busy, "known(" + bad + ")", x -> x.known(bad) ? 1 : 0, 0);
        }
        CHECK.due("known(5)", Scenes.busy().known(5), true);
        CHECK.due("known(24)", Scenes.full().known(24), true);
        CHECK.leavesAll(Scenes::full, "known(25)", x -> x.known(25) ? 1 : 0, 0);
        CHECK.leavesAll(TroughTreaty::new, "known(1)", x -> x.known(1) ? 1 : 0, 0);
        CHECK.due("known(0) of a new object", new TroughTreaty().known(0), true);
        CHECK.due("known(-1) of a new object", new TroughTreaty().known(-1), true);
    }

    private static void thirstsBits() {
        CHECK.about("37: 0, 10, .. 90 (bits 0 .. 9)");
        for (int tens = 0; tens < 10; tens++) {
            TroughTreaty x = told();
            x.see(1, 0, 99 - tens * 10, true);
            x.see(1, 0, 99 - tens * 10 + (tens == 0 ? 0 : 1), tens == 0);
            CHECK.due("THIRST " + tens * 10, x.thirsts(0), 1 << tens);
        }
        CHECK.due("nothing SEEN", told().thirsts(0), 1023);
        CHECK.leavesAll(Scenes::busy, "thirsts(0)", x -> x.thirsts(0) >= 0 ? 1 : 0, 1);
    }

    private static void thirstsFromTheText() {
        CHECK.about("SEEN: as it goes from the TEXT on, nothing done by call");
        TroughTreaty x = told();
        x.see(1, 0, 50, true);
        x.lead(0, 0);
        CHECK.due("led away", x.thirsts(0), 0x1f);
        x.go(5);
        x.fill(0, 99);
        x.send(0, 1);
        x.keep();
        x.go(50);
        CHECK.due("HOURS went by", x.thirsts(0), 0x1f);
        // By chance it would not always rain at 50, nor always be dry at 49.
        TroughTreaty wet = Check.told("trough a 5 0 1;horse h 0 0 0 1;law dry 0;rain 50;seed 1;");
        wet.see(60, 0, 6, true);
        CHECK.due("rain 50", wet.thirsts(0), 1023);
        TroughTreaty dry = Check.told("trough a 5 0 1;horse h 0 0 0 1;law dry 0;rain 49;seed 1;");
        dry.see(60, 0, 1, false);
        CHECK.due("rain 49", dry.thirsts(0), 1023);
    }

    private static void thirstsOfOneInPlace() {
        CHECK.about("THIRSTS: that THIRST may be at first, in place of what was told, by which all KNOWN ones are so");
        TroughTreaty x = told();
        x.see(1, 0, 69, true);
        x.see(1, 0, 70, false);
        CHECK.due("h with 30, as told", x.thirsts(0), 8);
        CHECK.due("k drinks not: h is as told", x.thirsts(1), 1023);
        x.see(1, 0, 68, false);
        CHECK.due("never all at once", x.thirsts(0), 0);
        CHECK.due("nor by k", x.thirsts(1), 0);
    }

    private static void thirstsRefused() {
        CHECK.about("37: NONE: no such HORSE");
        for (int bad : new int[] {-1, 3, 6, MIN, MAX}) {
            CHECK.leavesAll(Scenes::busy, "thirsts(" + bad + ")", x -> x.thirsts(bad), -1);
        }
        CHECK.due("thirsts(0) of none", new TroughTreaty().thirsts(0), -1);
        CHECK.due("one that FELL", Scenes.busy().thirsts(2) >= 0, true);
    }
}
