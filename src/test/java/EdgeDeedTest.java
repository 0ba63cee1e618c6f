import java.util.function.Supplier;

/** The boundaries that promises 6 to 12 and 40 to 43 name, a sentence each. */
public final class EdgeDeedTest {
    private static final Check CHECK = new Check();
    private static final int MIN = Integer.MIN_VALUE;
    private static final int MAX = Integer.MAX_VALUE;
    private static final long ERROR = Long.MIN_VALUE;

    public static void main(String[] args) {
        horseWhats();
        horseNoSuchHorse();
        horseNoSuchWhat();
        troughWhats();
        troughNoSuchOnes();
        lawNoSuchOnes();
        sendHowFar();
        sendAlready();
        sendRefused();
        fillWithin();
        fillRefused();
        leadWithin();
        leadRefused();
        goWithin();
        goRefused();
        goBehindNineThousand();
        undoLatestFirst();
        undoTwentyAtMost();
        undoNone();
        undoIfNoHourWentBy();
        keepInPlaceOfOneAhead();
        backToTheImage();
        backNone();
        imageButSeen();
        countWhats();
        countOtherWhat();
        CHECK.end();
    }

    private static TroughTreaty six() {
        return Check.told("road 60;trough a 0 0 0;trough b 1 99 9;trough c 2 5 1;trough d 3 5 1;trough e 4 5 1;trough f 60 5 1;"
                + "horse a 0 0 0 1;horse b 3 60 99 9;horse c 1 2 3 4;horse d 1 2 3 4;horse e 1 2 3 4;horse f 2 60 50 5;");
    }

    private static void horseWhats() {
        CHECK.about("6: what 0 SIDE, 1 PLACE, 2 THIRST, 3 PACE, 4 its GOAL (-2: none), 5 HURT, 6 whether ON, 7 DRANK (0 at first)");
        int[][] wanted = {{0, 0, 0, 1, -2, 0, 1, 0}, {3, 60, 99, 9, -2, 0, 1, 0}, {1, 2, 3, 4, -2, 0, 1, 0}};
        for (int horse = 0; horse < 3; horse++) {
            for (int what = 0; what < 8; what++) {
                CHECK.due("horse(" + horse + ", " + what + ")", six().horse(horse, what), wanted[horse][what]);
            }
        }
        CHECK.due("the sixth", six().horse(5, 3), 5);
        TroughTreaty x = Check.told("trough a 5 3 0;trough b 9 0 0;horse h 0 5 3 1;horse k 1 5 99 1;");
        x.send(0, 1);
        x.send(1, 0);
        CHECK.due("GOAL 1", x.horse(0, 4), 1);
        CHECK.due("GOAL 0", x.horse(1, 4), 0);
        x.lead(1, 5);
        CHECK.due("no GOAL any more", x.horse(1, 4), -2);
        x.lead(0, 5);
        x.go(1);
        CHECK.due("DRANK", x.horse(0, 7), 3);
        CHECK.due("DRANK nothing", x.horse(1, 7), 0);
        CHECK.due("FELL", x.horse(1, 6), 0);
        CHECK.due("ON", x.horse(0, 6), 1);
        x.go(1);
        CHECK.due("DRANK in the last HOUR", x.horse(0, 7), 0);
    }

    private static void horseNoSuchHorse() {
        CHECK.about("6: IndexOutOfBoundsException: no such HORSE");
        for (int horse : new int[] {-1, 3, 6, MIN, MAX}) {
            CHECK.leavesAll(Scenes::busy, "horse(" + horse + ", 0)", x -> Check.thrown(x, horse, 0), 1);
            CHECK.leavesAll(Scenes::busy, "horse(" + horse + ", 8)", x -> Check.thrown(x, horse, 8), 1);
        }
        CHECK.due("horse(2, 0)", Check.thrown(Scenes.busy(), 2, 0), 0);
        CHECK.due("horse(0, 0) of a new object", Check.thrown(new TroughTreaty(), 0, 0), 1);
        CHECK.due("horse(5, 0) of six", Check.thrown(six(), 5, 0), 0);
        CHECK.due("horse(6, 0) of six", Check.thrown(six(), 6, 0), 1);
        TroughTreaty fewer = six();
        Check.text(fewer, "horse h 0 0 0 1;");
        CHECK.due("one of an earlier TEXT", Check.thrown(fewer, 1, 0), 1);
    }

    private static void horseNoSuchWhat() {
        CHECK.about("6: NoSuchElementException: no such what");
        for (int what : new int[] {-1, 8, 9, MIN, MAX}) {
            CHECK.leavesAll(Scenes::busy, "horse(0, " + what + ")", x -> Check.thrown(x, 0, what), 2);
            CHECK.leavesAll(Scenes::busy, "horse(2, " + what + ")", x -> Check.thrown(x, 2, what), 2);
        }
        for (int what = 0; what < 8; what++) {
            CHECK.due("horse(2, " + what + ")", Check.thrown(Scenes.busy(), 2, what), 0);
        }
    }

    private static void troughWhats() {
        CHECK.about("7: what 0 PLACE, 1 WATER, 2 FILL, 3 HORSES (bits) that are ON and at its PLACE");
        int[][] wanted = {{0, 0, 0, 1}, {1, 99, 9, 0}, {2, 5, 1, 28}, {3, 5, 1, 0}, {4, 5, 1, 0}, {60, 5, 1, 34}};
        for (int trough = 0; trough < 6; trough++) {
            for (int what = 0; what < 4; what++) {
                CHECK.due("trough(" + trough + ", " + what + ")", six().trough(trough, what), wanted[trough][what]);
            }
        }
        TroughTreaty x = six();
        x.go(1);
        CHECK.due("b drank", x.trough(5, 3), 34);
        x.go(14);
        CHECK.due("b FELL", x.trough(5, 3), 32);
    }

    private static void troughNoSuchOnes() {
        CHECK.about("7: NONE: no such ones");
        for (int bad : new int[] {-1, MIN, MAX}) {
            CHECK.leavesAll(Scenes::busy, "trough(" + bad + ", 0)", x -> x.trough(bad, 0), -1);
            CHECK.leavesAll(Scenes::busy, "trough(0, " + bad + ")", x -> x.trough(0, bad), -1);
        }
        CHECK.leavesAll(Scenes::busy, "trough(2, 0)", x -> x.trough(2, 0), -1);
        CHECK.leavesAll(Scenes::busy, "trough(1, 4)", x -> x.trough(1, 4), -1);
        CHECK.due("trough(1, 0)", Scenes.busy().trough(1, 0), 12);
        CHECK.due("trough(1, 3)", Scenes.busy().trough(1, 3), 0);
        CHECK.due("trough(6, 0) of six", six().trough(6, 0), -1);
        CHECK.due("trough(0, 0) of none", new TroughTreaty().trough(0, 0), -1);
    }

    private static void lawNoSuchOnes() {
        CHECK.about("8: Long.MIN_VALUE: no such law");
        CHECK.leavesAll(Scenes::busy, "law(2, 0), which isn't told", x -> x.law(2, 0), ERROR);
        CHECK.due("law(0, 0)", Scenes.busy().law(0, 0), 1);
        CHECK.due("law(1, 2)", Scenes.busy().law(1, 2), 6);
        CHECK.about("8: Long.MIN_VALUE: no such ones");
        TroughTreaty x = Check.told("horse h 0 1 1 1;horse k 0 1 1 1;law dry 5;law gulp 6;law fight 7;");
        long[] worths = {ERROR, 5, 6, 7, ERROR};
        for (int what = -1; what <= 3; what++) {
            CHECK.due("law(" + what + ", 0)", x.law(what, 0), worths[what + 1]);
            CHECK.due("law(" + what + ", 1)", x.law(what, 1), worths[what + 1]);
            CHECK.due("law(" + what + ", 2)", x.law(what, 2), ERROR);
            CHECK.due("law(" + what + ", -1)", x.law(what, -1), ERROR);
        }
        for (int bad : new int[] {MIN, MAX}) {
            CHECK.leavesAll(Scenes::busy, "law(" + bad + ", 0)", y -> y.law(bad, 0), ERROR);
            CHECK.leavesAll(Scenes::busy, "law(0, " + bad + ")", y -> y.law(0, bad), ERROR);
        }
        CHECK.about("8: Long.MIN_VALUE: an ERROR");
        CHECK.due("law(0, 0)", Check.told("horse h 0 1 1 1;law dry 5 / hour;").law(0, 0), ERROR);
        CHECK.due("no HORSE", Check.told("law dry 5;").law(0, 0), ERROR);
    }

    private static void sendHowFar() {
        CHECK.about("9: a TROUGH is the GOAL of a HORSE that is ON from now on: how far it is");
        TroughTreaty x = six();
        CHECK.due("there", x.send(0, 0), 0);
        CHECK.due("60 places", x.send(0, 5), 60);
        CHECK.due("60 places", x.send(1, 0), 60);
        CHECK.due("the GOAL", x.horse(0, 4), 5);
        CHECK.due("the GOAL", x.horse(1, 4), 0);
        CHECK.due("the sixth HORSE", x.send(5, 1), 59);
        CHECK.due("four deeds", x.count(13), 4);
        x.go(1);
        CHECK.due("it goes", x.horse(0, 1), 1);
    }

    private static void sendAlready() {
        CHECK.about("9: -2: it is already");
        CHECK.leavesAll(Scenes::busy, "send(0, 1) again", x -> x.send(0, 1), -2);
        TroughTreaty x = six();
        x.send(0, 0);
        CHECK.due("there already", x.send(0, 0), -2);
        CHECK.due("another one", x.send(0, 1), 1);
        CHECK.due("the first one again", x.send(0, 0), 0);
        TroughTreaty lap = Check.told("trough a 9 0 0;horse h 0 0 0 1;lap h a 0;");
        lap.go(1);
        CHECK.due("by a LAP", lap.send(0, 0), -2);
    }

    private static void sendRefused() {
        CHECK.about("9: NONE: no such ones");
        for (int bad : new int[] {-1, -2, MIN, MAX}) {
            CHECK.leavesAll(Scenes::busy, "send(" + bad + ", 0)", x -> x.send(bad, 0), -1);
            CHECK.leavesAll(Scenes::busy, "send(0, " + bad + ")", x -> x.send(0, bad), -1);
        }
        CHECK.leavesAll(Scenes::busy, "send(3, 0)", x -> x.send(3, 0), -1);
        CHECK.leavesAll(Scenes::busy, "send(0, 2)", x -> x.send(0, 2), -1);
        CHECK.leavesAll(Scenes::busy, "send(1, -2), who has no GOAL", x -> x.send(1, -2), -1);
        CHECK.about("9: NONE: it FELL");
        CHECK.leavesAll(Scenes::busy, "send(2, 0)", x -> x.send(2, 0), -1);
        TroughTreaty x = Check.told("trough a 9 0 0;horse h 0 0 99 1;lap h a 0;");
        x.go(1);
        CHECK.due("to its GOAL", x.send(0, 0), -1);
    }

    private static TroughTreaty water(int much) {
        return Check.told("trough a 1 0 0;trough b 5 " + much + " 0;");
    }

    private static void fillWithin() {
        CHECK.about("10: WATER of a TROUGH is more by 1 .. 99, 99 at most");
        CHECK.due("0 and 1", water(0).fill(1, 1), 1);
        CHECK.due("0 and 99", water(0).fill(1, 99), 99);
        CHECK.due("1 and 98", water(1).fill(1, 98), 99);
        CHECK.due("2 and 98", water(2).fill(1, 98), 99);
        CHECK.due("98 and 1", water(98).fill(1, 1), 99);
        CHECK.due("99 and 1", water(99).fill(1, 1), 99);
        CHECK.due("99 and 99", water(99).fill(1, 99), 99);
        CHECK.due("97 and 1", water(97).fill(1, 1), 98);
        TroughTreaty x = water(40);
        x.fill(1, 20);
        CHECK.due("WATER", x.trough(1, 1), 60);
        CHECK.due("WATER of the other one", x.trough(0, 1), 0);
        CHECK.due("no HORSE is needed", x.count(13), 1);
    }

    private static void fillRefused() {
        CHECK.about("10: NONE: no such ones");
        for (int bad : new int[] {-1, 2, MIN, MAX}) {
            CHECK.leavesAll(Scenes::busy, "fill(" + bad + ", 5)", x -> x.fill(bad, 5), -1);
        }
        for (int bad : new int[] {0, -1, 100, MIN, MAX}) {
            CHECK.leavesAll(Scenes::busy, "fill(0, " + bad + ")", x -> x.fill(0, bad), -1);
        }
        CHECK.due("fill(0, 1) of none", new TroughTreaty().fill(0, 1), -1);
    }

    private static void leadWithin() {
        CHECK.about("11: a HORSE that is ON is led to a PLACE now, without a GOAL then");
        TroughTreaty x = six();
        CHECK.due("to 60", x.lead(0, 60), true);
        CHECK.due("its PLACE", x.horse(0, 1), 60);
        CHECK.due("to 0", x.lead(0, 0), true);
        CHECK.due("its PLACE", x.horse(0, 1), 0);
        x.send(0, 5);
        CHECK.due("to 1", x.lead(0, 1), true);
        CHECK.due("its GOAL", x.horse(0, 4), -2);
        x.go(1);
        CHECK.due("it stays", x.horse(0, 1), 1);
        TroughTreaty shorter = Check.told("road 2;horse h 0 0 0 1;");
        CHECK.due("to 2 of 2", shorter.lead(0, 2), true);
        CHECK.due("to 3 of 2", shorter.lead(0, 3), false);
    }

    private static void leadRefused() {
        CHECK.about("11: false: no such ones");
        for (int bad : new int[] {-1, 3, MIN, MAX}) {
            CHECK.leavesAll(Scenes::busy, "lead(" + bad + ", 4)", x -> x.lead(bad, 4) ? 1 : 0, 0);
        }
        for (int bad : new int[] {-1, 31, 60, 61, MIN, MAX}) {
            CHECK.leavesAll(Scenes::busy, "lead(0, " + bad + ")", x -> x.lead(0, bad) ? 1 : 0, 0);
        }
        CHECK.due("lead(0, 30)", Scenes.busy().lead(0, 30), true);
        CHECK.due("lead(0, 0)", Scenes.busy().lead(0, 0), true);
        CHECK.about("11: false: it FELL");
        CHECK.leavesAll(Scenes::busy, "lead(2, 4)", x -> x.lead(2, 4) ? 1 : 0, 0);
        CHECK.about("11: false: it is there without a GOAL");
        CHECK.leavesAll(Scenes::busy, "lead(1, 9)", x -> x.lead(1, 9) ? 1 : 0, 0);
        CHECK.due("there with a GOAL", Scenes.busy().lead(0, Scenes.busy().horse(0, 1)), true);
        CHECK.due("elsewhere without one", Scenes.busy().lead(1, 10), true);
    }

    private static void goWithin() {
        CHECK.about("12: so many HOURS (0 .. 200) go by: which one it is");
        CHECK.due("go(0)", Scenes.busy().go(0), 7);
        CHECK.leavesAll(Scenes::busy, "go(0)", x -> x.go(0), 7);
        CHECK.due("go(1)", Scenes.busy().go(1), 8);
        CHECK.due("go(200)", Scenes.busy().go(200), 207);
        TroughTreaty x = new TroughTreaty();
        CHECK.due("without LINES", x.go(200), 200);
        CHECK.due("HOUR", x.count(5), 200);
        TroughTreaty all = Check.told("trough a 5 0 1;rain 100;");
        all.go(200);
        CHECK.due("each of them", all.trough(0, 1), 20);
    }

    private static void goRefused() {
        CHECK.about("12: NONE, and none does: no such number");
        for (int bad : new int[] {-1, 201, MIN, MAX}) {
            CHECK.leavesAll(Scenes::busy, "go(" + bad + ")", x -> x.go(bad), -1);
        }
    }

    private static TroughTreaty late(int hour) {
        TroughTreaty x = Check.told("trough a 5 1 0;horse h 0 0 1 1;law dry 0;");
        for (int left = hour; left > 0; left -= 200) {
            x.go(Math.min(200, left));
        }
        x.fill(0, 7);
        return x;
    }

    private static void goBehindNineThousand() {
        CHECK.about("12: NONE, and none does: behind 9000");
        CHECK.due("to 9000", late(8800).go(200), 9000);
        CHECK.due("to 9001", late(8801).go(200), -1);
        CHECK.leavesAll(() -> late(8801), "go(200)", x -> x.go(200), -1);
        CHECK.due("to 9000", late(8999).go(1), 9000);
        CHECK.leavesAll(() -> late(8999), "go(2)", x -> x.go(2), -1);
        CHECK.due("go(0) at 9000", late(9000).go(0), 9000);
        CHECK.leavesAll(() -> late(9000), "go(1) at 9000", x -> x.go(1), -1);
        CHECK.due("what comes is told yet", late(9000).ahead(200, 3, 0), 8);
        CHECK.due("a TEXT begins anew", anewAtTheEnd().go(200), 200);
        TroughTreaty image = Check.told("rain 5;");
        image.keep();
        for (int i = 0; i < 45; i++) {
            image.go(200);
        }
        image.back();
        CHECK.due("an IMAGE, too", image.go(1), 1);
    }

    private static TroughTreaty anewAtTheEnd() {
        TroughTreaty x = late(9000);
        x.text(0);
        return x;
    }

    private static void undoLatestFirst() {
        CHECK.about("40: the latest is undone: how many are left");
        TroughTreaty x = six();
        x.send(0, 5);
        x.fill(0, 99);
        x.lead(0, 7);
        CHECK.due("undo", x.undo(), 2);
        CHECK.due("PLACE", x.horse(0, 1), 0);
        CHECK.due("GOAL", x.horse(0, 4), 5);
        CHECK.due("WATER", x.trough(0, 1), 99);
        CHECK.due("undo", x.undo(), 1);
        CHECK.due("WATER", x.trough(0, 1), 0);
        CHECK.due("GOAL", x.horse(0, 4), 5);
        CHECK.due("undo", x.undo(), 0);
        CHECK.due("GOAL", x.horse(0, 4), -2);
        TroughTreaty full = water(99);
        full.fill(1, 5);
        CHECK.due("a fill that gave nothing is one", full.undo(), 0);
        CHECK.due("WATER", full.trough(1, 1), 99);
        String before = Picture.of(six());
        TroughTreaty all = six();
        for (int i = 0; i < 6; i++) {
            all.send(i, 5 - i);
            all.fill(i, 10 + i);
            all.lead(i, 30 + i);
        }
        for (int i = 0; i < 18; i++) {
            CHECK.due("undo", all.undo(), 17 - i);
        }
        CHECK.due("as it was", Picture.of(all).equals(before), true);
    }

    private static void undoTwentyAtMost() {
        CHECK.about("==== 4: the latest first (20 at most)");
        for (int deeds : new int[] {19, 20, 21, 22, 41}) {
            TroughTreaty x = water(0);
            for (int i = 0; i < deeds; i++) {
                x.fill(1, 1);
            }
            int can = Math.min(20, deeds);
            CHECK.due("behind " + deeds, x.count(13), can);
            for (int left = can - 1; left >= 0; left--) {
                CHECK.due("undo", x.undo(), left);
            }
            CHECK.due("no more", x.undo(), -1);
            CHECK.due("what stays of " + deeds, x.trough(1, 1), deeds - can);
        }
        for (int deeds = 19; deeds <= 27; deeds++) {
            TroughTreaty all = mixed(deeds);
            for (int i = 0; i < 20; i++) {
                all.undo();
            }
            String stays = Picture.ofWorld(mixed(Math.max(0, deeds - 20)));
            CHECK.due("what stays of " + deeds + " mixed ones", Picture.ofWorld(all).equals(stays), true);
        }
        TroughTreaty x = Scenes.full();
        x.undo();
        x.fill(0, 1);
        CHECK.due("20 again", x.count(13), 20);
        x.undo();
        CHECK.due("PLACE behind the 19th", x.horse(0, 1), 18);
    }

    /** So many deeds of all kinds, no two of which change the same thing to the same. */
    private static TroughTreaty mixed(int deeds) {
        TroughTreaty x = six();
        for (int i = 0; i < deeds; i++) {
            switch (i % 3) {
                case 0: x.lead(i % 6, 20 + i); break;
                case 1: x.fill(i % 5, 1 + i % 7); break;
                default: x.send(i % 6, (i + i / 6) % 6); break;
            }
        }
        return x;
    }

    private static void undoNone() {
        CHECK.about("40: NONE: none");
        CHECK.leavesAll(TroughTreaty::new, "undo()", x -> x.undo(), -1);
        CHECK.leavesAll(EdgeDeedTest::six, "undo()", x -> x.undo(), -1);
        TroughTreaty x = six();
        x.send(0, 5);
        x.undo();
        CHECK.due("none left", x.undo(), -1);
        CHECK.due("its GOAL", x.horse(0, 4), -2);
        x.send(0, 9);
        x.fill(0, 0);
        x.lead(0, 0);
        CHECK.due("none of refused ones", x.undo(), -1);
    }

    private static void undoIfNoHourWentBy() {
        CHECK.about("==== 4: if no HOUR went by since");
        TroughTreaty x = Scenes.busy();
        x.go(0);
        CHECK.due("go(0)", x.count(13), 3);
        x.go(201);
        CHECK.due("a go that is refused", x.count(13), 3);
        x.ahead(50, 0, 0);
        CHECK.due("what comes doesn't go by", x.count(13), 3);
        x.go(1);
        CHECK.due("go(1)", x.count(13), 0);
        CHECK.due("undo", x.undo(), -1);
        x.fill(0, 1);
        CHECK.due("one since", x.undo(), 0);
        CHECK.due("none since", x.undo(), -1);
    }

    private static void keepInPlaceOfOneAhead() {
        CHECK.about("41: an IMAGE is kept (in place of one ahead): which HOUR it is");
        CHECK.due("of a new object", new TroughTreaty().keep(), 0);
        CHECK.due("HOUR 7", Scenes.busy().keep(), 7);
        TroughTreaty x = Scenes.busy();
        x.keep();
        x.go(3);
        CHECK.due("the last one", x.back(), 7);
        TroughTreaty early = Scenes.busy();
        early.go(3);
        CHECK.due("the one ahead", early.back(), 4);
        TroughTreaty last = late(9000);
        CHECK.due("HOUR 9000", last.keep(), 9000);
        TroughTreaty deeds = Scenes.busy();
        deeds.keep();
        CHECK.due("what can be undone stays", deeds.undo(), 2);
    }

    private static void backToTheImage() {
        CHECK.about("42: all (but what was SEEN) is as in the IMAGE (nothing to undo then): which HOUR it is");
        TroughTreaty x = Scenes.busy();
        String kept = Picture.ofWorld(Scenes.busy());
        x.keep();
        x.lead(0, 20);
        x.fill(0, 50);
        x.go(90);
        CHECK.due("it is otherwise", Picture.ofWorld(x).equals(kept), false);
        CHECK.due("back", x.back(), 7);
        CHECK.due("all is", Picture.ofWorld(x).equals(kept), true);
        CHECK.due("nothing to undo", x.count(13), 0);
        CHECK.due("nothing to undo", x.undo(), -1);
        CHECK.due("it stays", x.back(), 7);
        x.fill(0, 1);
        CHECK.due("back", x.back(), 7);
        CHECK.due("nothing to undo", x.count(13), 0);
        CHECK.due("all is", Picture.ofWorld(x).equals(kept), true);
        TroughTreaty rain = Check.told("trough a 5 0 1;trough b 6 0 1;rain 50;seed 77;");
        rain.go(20);
        rain.keep();
        rain.go(100);
        String later = Picture.ofWorld(rain);
        rain.back();
        rain.go(100);
        CHECK.due("the numbers, too", Picture.ofWorld(rain).equals(later), true);
        backToPeace();
    }

    /** h and k TALK in HOUR 0, as h drinks, and FIGHT from HOUR 1 on. */
    private static void backToPeace() {
        for (int hour = 0; hour < 5; hour++) {
            TroughTreaty x = Check.told("trough a 5 9 0;horse h 0 5 9 1;horse k 1 5 0 1;law dry 0;law fight 40;");
            x.go(hour);
            String shown = Picture.ofWorld(x);
            x.keep();
            x.go(2);
            CHECK.due("back", x.back(), hour);
            CHECK.due("PEACE, HURT, DRANK of HOUR " + hour, Picture.ofWorld(x).equals(shown), true);
            CHECK.due("ON of HOUR " + hour, x.count(8), hour < 4 ? 2 : 0);
        }
    }

    private static void backNone() {
        CHECK.about("42: NONE: there is none");
        CHECK.leavesAll(TroughTreaty::new, "back()", x -> x.back(), -1);
        Supplier<TroughTreaty> deeds = () -> {
            TroughTreaty x = six();
            x.go(2);
            x.send(0, 5);
            return x;
        };
        CHECK.leavesAll(deeds, "back()", x -> x.back(), -1);
        TroughTreaty x = six();
        x.keep();
        Check.text(x, "!");
        CHECK.due("behind a FAULT there is one", x.back(), 0);
        x.text(0);
        CHECK.due("behind a TEXT there is none", x.back(), -1);
    }

    private static void imageButSeen() {
        CHECK.about("==== 4: an IMAGE keeps all but what was SEEN");
        TroughTreaty x = Check.told(Scenes.TEXT);
        x.see(1, 0, 30, true);
        x.keep();
        x.see(1, 0, 30, false);
        x.see(2, 0, 30, false);
        x.back();
        CHECK.due("SEEN", x.count(11), 3);
        CHECK.due("what was SEEN counts", x.thirsts(0), 0);
        x.strike(1);
        x.back();
        CHECK.due("SEEN", x.count(11), 4);
        TroughTreaty full = Scenes.full();
        full.back();
        CHECK.due("24 stay", full.see(1, 0, 0, true), -1);
    }

    private static void countWhats() {
        CHECK.about("43: 0 TROUGHS .. 13 what can be undone");
        // h and k drink all 40 in four HOURS in which they TALK; then they FIGHT three times.
        int[] wanted = {2, 3, 1, 30, 4, 7, 3, 4, 2, 20, 40, 5, 4, 3};
        TroughTreaty x = Scenes.busy();
        for (int what = 0; what <= 13; what++) {
            CHECK.due("count(" + what + ")", x.count(what), wanted[what]);
        }
        CHECK.due("all six are ON", six().count(8), 6);
        CHECK.due("none is ON", Scenes.fallen().count(8), 0);
        CHECK.due("24 SEEN", Scenes.full().count(11), 24);
        CHECK.due("by all", Scenes.full().count(12), 24);
        CHECK.due("20 deeds", Scenes.full().count(13), 20);
        CHECK.due("WATER in six", six().count(9), 119);
        CHECK.due("WATER in the first alone", Check.told("trough a 5 7 0;trough b 6 0 0;").count(9), 7);
    }

    private static void countOtherWhat() {
        CHECK.about("43: NONE for another what");
        for (int what : new int[] {-1, 14, 15, MIN, MAX}) {
            CHECK.leavesAll(Scenes::busy, "count(" + what + ")", x -> x.count(what), -1);
        }
    }
}
