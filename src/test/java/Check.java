import java.nio.charset.StandardCharsets;
import java.util.ArrayList;
import java.util.List;
import java.util.NoSuchElementException;
import java.util.function.Supplier;
import java.util.function.ToLongFunction;

/** What all tests of the project share: answers that are due, and texts fed as numbers. */
final class Check {
    private int asked = 0;
    private int wrong = 0;
    private String sentence = "";

    /** The sentence of the document that the answers from here on are about. */
    void about(String sentence) {
        this.sentence = sentence + " | ";
    }

    void due(String call, long got, long want) {
        asked++;
        if (got != want) {
            wrong++;
            System.out.println(sentence + call + " answered " + got + ", due is " + want);
        }
    }

    void due(String call, boolean got, boolean want) {
        due(call, got ? 1 : 0, want ? 1 : 0);
    }

    /**
     * A call that leaves all as it was: what it answers, and that behind it a new object of the
     * scene shows what another one shows without it.
     */
    void leavesAll(Supplier<TroughTreaty> scene, String call, ToLongFunction<TroughTreaty> asked, long want) {
        TroughTreaty x = scene.get();
        due(call, asked.applyAsLong(x), want);
        String without = Picture.of(scene.get());
        String with = Picture.of(x);
        due(call + " leaves all as it was, up to " + Picture.firstUnlike(without, with), without.equals(with), true);
    }

    /** A text with a FAULT; '@' marks its place and is left out. */
    void fault(int kind, String marked) {
        int place = marked.indexOf('@');
        String text = marked.substring(0, place) + marked.substring(place + 1);
        TroughTreaty x = new TroughTreaty();
        due(marked, text(x, text), -1);
        due(marked + " its kind", x.fault(0), kind);
        due(marked + " its place", x.fault(1), place);
    }

    /** A text without a FAULT: how many LINES. */
    void fine(int lines, String text) {
        TroughTreaty x = new TroughTreaty();
        due(text, text(x, text), lines);
        due(text + " its FAULT", x.fault(0), 0);
        due(text + " its place", x.fault(1), -1);
    }

    /** Ends the program, with 1 if an answer was wrong. */
    void end() {
        System.out.println(asked + " answers, " + wrong + " wrong");
        System.exit(wrong == 0 && asked > 0 ? 0 : 1);
    }

    /** Bytes as numbers for feed(), blanks behind them up to a whole row of twenty. */
    static List<int[]> rows(byte[] bytes) {
        List<int[]> rows = new ArrayList<>();
        for (int at = 0; at < bytes.length; at += 20) {
            int[] five = new int[5];
            for (int i = 0; i < 20; i++) {
                int b = at + i < bytes.length ? bytes[at + i] & 255 : 32;
                five[i / 4] = five[i / 4] << 8 | b;
            }
            rows.add(five);
        }
        return rows;
    }

    static void feed(TroughTreaty x, byte[] bytes) {
        for (int[] five : rows(bytes)) {
            x.feed(five[0], five[1], five[2], five[3], five[4]);
        }
    }

    static int text(TroughTreaty x, String text) {
        byte[] bytes = text.getBytes(StandardCharsets.ISO_8859_1);
        feed(x, bytes);
        return x.text(bytes.length);
    }

    /** A new object with a text that has no FAULT. */
    static TroughTreaty told(String text) {
        TroughTreaty x = new TroughTreaty();
        if (text(x, text) < 0) {
            throw new IllegalStateException("FAULT " + x.fault(0) + " at " + x.fault(1) + " of " + text);
        }
        return x;
    }

    static int letters(String name) {
        int bits = 0;
        for (int i = 0; i < 6; i++) {
            bits = bits << 5 | (i < name.length() ? name.charAt(i) - 'a' + 1 : 0);
        }
        return bits;
    }

    /** 1: IndexOutOfBoundsException, 2: NoSuchElementException, 0: an answer. */
    static int thrown(TroughTreaty x, int horse, int what) {
        try {
            x.horse(horse, what);
            return 0;
        } catch (IndexOutOfBoundsException e) {
            return 1;
        } catch (NoSuchElementException e) {
            return 2;
        }
    }
}
