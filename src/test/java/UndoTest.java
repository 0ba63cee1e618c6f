/** Promises 40 to 42: undo, keep, back. */
public final class UndoTest {
    private static final Check CHECK = new Check();
    private static final String TEXT = "trough a 5 20 3;trough b 9 50 7;horse h 0 5 30 1;horse k 1 5 10 1;horse m 2 0 0 2;rain 40;seed 8;";

    public static void main(String[] args) {
        undo();
        twentyAtMost();
        hoursGoBy();
        images();
        imagesAndPeace();
        imagesAndSeen();
        CHECK.end();
    }

    private static void undo() {
        TroughTreaty x = Check.told(TEXT);
        CHECK.due("none", x.undo(), -1);
        x.send(0, 1);
        x.send(0, 0);
        x.fill(0, 90);
        x.lead(0, 7);
        x.lead(1, 20);
        x.send(0, 9);
        x.fill(0, 0);
        x.lead(0, 7);
        CHECK.due("five", x.count(13), 5);
        CHECK.due("undo", x.undo(), 4);
        CHECK.due("k's PLACE", x.horse(1, 1), 5);
        CHECK.due("undo", x.undo(), 3);
        CHECK.due("h's PLACE", x.horse(0, 1), 5);
        CHECK.due("h's GOAL", x.horse(0, 4), 0);
        CHECK.due("WATER", x.trough(0, 1), 99);
        CHECK.due("undo", x.undo(), 2);
        CHECK.due("WATER", x.trough(0, 1), 20);
        CHECK.due("undo", x.undo(), 1);
        CHECK.due("h's GOAL", x.horse(0, 4), 1);
        CHECK.due("undo", x.undo(), 0);
        CHECK.due("h's GOAL", x.horse(0, 4), -2);
        CHECK.due("none left", x.undo(), -1);
        CHECK.due("count(13)", x.count(13), 0);
    }

    private static void twentyAtMost() {
        TroughTreaty x = Check.told(TEXT);
        for (int i = 1; i <= 23; i++) {
            x.fill(0, 1);
            CHECK.due("count(13)", x.count(13), Math.min(20, i));
        }
        x.send(2, 1);
        for (int i = 19; i >= 0; i--) {
            CHECK.due("undo", x.undo(), i);
            CHECK.due("WATER", x.trough(0, 1), 24 + i);
        }
        CHECK.due("undo", x.undo(), -1);
        CHECK.due("the eldest stay", x.trough(0, 1), 24);
        for (int i = 0; i < 25; i++) {
            x.lead(i % 3, i % 20);
            x.send(i % 3, i % 2);
        }
        for (int i = 19; i >= 0; i--) {
            CHECK.due("undo", x.undo(), i);
        }
        // The deeds of i 0 .. 14 stay.
        mixed();
        CHECK.due("PLACE", x.horse(0, 1), 12);
        CHECK.due("GOAL", x.horse(0, 4), 0);
        CHECK.due("PLACE", x.horse(2, 1), 14);
        CHECK.due("GOAL", x.horse(2, 4), 0);
    }

    /** Deeds of both kinds, more than can be undone, at HORSES and TROUGHS by turns. */
    private static void mixed() {
        TroughTreaty x = Check.told(TEXT);
        for (int i = 0; i < 25; i++) {
            if (i % 3 == 0) {
                x.fill(i % 2, 1);
            } else {
                x.lead(i % 3, i % 20);
            }
        }
        while (x.undo() > 0) {
            continue;
        }
        // i 0 .. 4 stay: fill(0), lead(1, 1), lead(2, 2), fill(1), lead(1, 4).
        int[] wanted = {x.trough(0, 1), 21, x.trough(1, 1), 51, x.horse(0, 1), 5, x.horse(1, 1), 4, x.horse(2, 1), 2};
        for (int i = 0; i < wanted.length; i += 2) {
            CHECK.due("what stays " + i / 2, wanted[i], wanted[i + 1]);
        }
    }

    private static void hoursGoBy() {
        TroughTreaty x = Check.told(TEXT);
        x.send(0, 1);
        x.go(0);
        x.go(201);
        x.go(-1);
        CHECK.due("no HOUR went by", x.count(13), 1);
        x.go(1);
        CHECK.due("one did", x.count(13), 0);
        CHECK.due("undo", x.undo(), -1);
        CHECK.due("GOAL", x.horse(0, 4), 1);
    }

    private static void images() {
        TroughTreaty x = Check.told(TEXT);
        CHECK.due("none", x.back(), -1);
        x.go(15);
        x.send(2, 1);
        CHECK.due("keep", x.keep(), 15);
        CHECK.due("what can be undone stays", x.count(13), 1);
        long before = standing(x);
        x.fill(0, 5);
        x.go(100);
        long later = standing(x);
        CHECK.due("back", x.back(), 15);
        CHECK.due("all is as it was", standing(x), before);
        CHECK.due("nothing to undo", x.undo(), -1);
        x.fill(0, 5);
        x.back();
        CHECK.due("nothing to undo", x.count(13), 0);
        CHECK.due("all is as it was", standing(x), before);
        x.fill(0, 5);
        x.go(100);
        CHECK.due("the numbers, too", standing(x), later);
        CHECK.due("again", x.back(), 15);
        CHECK.due("all is as it was", standing(x), before);
        x.go(3);
        CHECK.due("in place of the one ahead", x.keep(), 18);
        x.go(3);
        CHECK.due("back", x.back(), 18);
        Check.text(x, "road");
        CHECK.due("a FAULT leaves it", x.back(), 18);
        Check.text(x, TEXT);
        CHECK.due("a new TEXT doesn't", x.back(), -1);
    }

    /** They TALK in HOUR 0 and FIGHT in HOUR 1. */
    private static void imagesAndPeace() {
        TroughTreaty x = Check.told("trough a 5 9 0;horse h 0 5 9 1;horse k 1 5 0 1;law dry 0;");
        x.go(1);
        x.keep();
        x.go(1);
        CHECK.due("no peace", x.peace(0, 1), 0);
        x.back();
        CHECK.due("peace", x.peace(0, 1), 1);
        Check.text(x, "trough a 5 9 0;horse h 0 5 9 1;horse k 1 5 0 1;law dry 0;");
        x.keep();
        x.go(1);
        CHECK.due("peace", x.peace(0, 1), 1);
        x.back();
        CHECK.due("not yet", x.peace(0, 1), 0);
        x.go(1);
        CHECK.due("DRANK", x.horse(0, 7), 9);
    }

    private static long standing(TroughTreaty x) {
        long all = 0;
        for (int what = 0; what <= 10; what++) {
            all = all * 31 + x.count(what);
        }
        for (int i = 0; i < 3; i++) {
            for (int what = 0; what < 8; what++) {
                all = all * 31 + x.horse(i, what);
            }
            all = all * 31 + x.trough(i % 2, 1);
            all = all * 31 + x.peace(i, (i + 1) % 3);
        }
        return all;
    }

    private static void imagesAndSeen() {
        TroughTreaty x = Check.told(TEXT);
        x.see(1, 0, 5, true);
        x.keep();
        x.see(1, 0, 5, true);
        x.strike(0);
        x.back();
        CHECK.due("what was SEEN stays", x.count(11), 3);
    }
}
