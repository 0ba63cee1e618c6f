/**
 * All that the calls of an object show, as a text. Some of it shows only by calls that change the
 * object (what can be undone, the numbers by chance, the IMAGE, the TAPE), so it is used up.
 * It takes fewer than 450 calls of the 512 that an object has.
 */
final class Picture {
    private final TroughTreaty x;
    private final StringBuilder shown = new StringBuilder();
    private int troughs;
    private int horses;

    private Picture(TroughTreaty x) {
        this.x = x;
    }

    static String of(TroughTreaty x) {
        Picture picture = new Picture(x);
        picture.standing();
        picture.laws();
        picture.ahead();
        picture.seen();
        picture.undone();
        picture.hoursToCome();
        picture.image();
        picture.tape();
        return picture.shown.toString();
    }

    /** How all stands, without what was SEEN, the TAPE, the FAULT and the IMAGE. */
    static String ofWorld(TroughTreaty x) {
        Picture picture = new Picture(x);
        picture.world();
        return picture.shown.toString();
    }

    static String firstUnlike(String one, String other) {
        int i = 0;
        while (i < one.length() && i < other.length() && one.charAt(i) == other.charAt(i)) {
            i++;
        }
        return one.substring(Math.max(0, i - 30), i);
    }

    private void show(String call, long answer) {
        shown.append(call).append('=').append(answer).append(' ');
    }

    private void standing() {
        show("fault0", x.fault(0));
        show("fault1", x.fault(1));
        for (int what = 11; what <= 13; what++) {
            show("count" + what, x.count(what));
        }
        world();
    }

    private void world() {
        troughs = x.count(0);
        horses = x.count(1);
        for (int what = 0; what <= 10; what++) {
            show("count" + what, x.count(what));
        }
        for (int horse = 0; horse < horses; horse++) {
            for (int what = 0; what < 8; what++) {
                show("horse" + horse + "." + what, x.horse(horse, what));
            }
        }
        for (int trough = 0; trough < troughs; trough++) {
            for (int what = 0; what < 4; what++) {
                show("trough" + trough + "." + what, x.trough(trough, what));
            }
        }
        for (int one = 0; one < 4; one++) {
            for (int other = one + 1; other < 4; other++) {
                show("peace" + one + "." + other, x.peace(one, other));
            }
        }
    }

    private void laws() {
        for (int horse = 0; horse < horses; horse++) {
            for (int what = 0; what < 3; what++) {
                show("law" + what + "." + horse, x.law(what, horse));
            }
        }
        show("dry", x.staysDry(1, 0));
    }

    private void ahead() {
        for (int what = 0; what <= 4; what++) {
            show("ahead" + what, x.ahead(30, what, 0));
        }
    }

    private void seen() {
        for (int horse = 0; horse < horses; horse++) {
            show("thirsts" + horse, x.thirsts(horse));
        }
    }

    private void undone() {
        for (int left = x.undo(); left >= 0; left = x.undo()) {
            show("left", left);
            for (int horse = 0; horse < horses; horse++) {
                show("place" + horse, x.horse(horse, 1));
                show("goal" + horse, x.horse(horse, 4));
            }
            for (int trough = 0; trough < troughs; trough++) {
                show("water" + trough, x.trough(trough, 1));
            }
        }
    }

    private void hoursToCome() {
        show("go", x.go(40));
        world();
    }

    private void image() {
        show("back", x.back());
        world();
    }

    private void tape() {
        show("feed", x.feed(0x20202020, 0x20202020, 0x20202020, 0x20202020, 0x20202020));
        show("text", x.text(20));
        world();
    }
}
