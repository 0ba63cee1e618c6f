import java.nio.charset.StandardCharsets;
import java.util.ArrayList;
import java.util.List;
import java.util.NoSuchElementException;

/** What all tests of the project share: answers that are due, and texts fed as numbers. */
final class Check {
    private int asked = 0;
    private int wrong = 0;

    void due(String call, long got, long want) {
        asked++;
        if (got != want) {
            wrong++;
            System.out.println(call + " answered " + got + ", due is " + want);
        }
    }

    void due(String call, boolean got, boolean want) {
        due(call, got ? 1 : 0, want ? 1 : 0);
    }

    /** Ends the program, with 1 if an answer was wrong. */
    void end() {
        System.out.println(asked + " answers, " + wrong + " wrong");
        System.exit(wrong == 0 && asked > 0 ? 0 : 1);
    }

    /** Bytes as numbers for feed(), blanks behind them up to a whole row of twenty. */
    static List<int[]> rows(byte[] bytes) {
        List<int[]> rows = new ArrayList<>();
        for (int at = 0; at < bytes.length; at += 20) {
            int[] five = new int[5];
            for (int i = 0; i < 20; i++) {
                int b = at + i < bytes.length ? bytes[at + i] & 255 : 32;
                five[i / 4] = five[i / 4] << 8 | b;
            }
            rows.add(five);
        }
        return rows;
    }

    static void feed(TroughTreaty x, byte[] bytes) {
        for (int[] five : rows(bytes)) {
            x.feed(five[0], five[1], five[2], five[3], five[4]);
        }
    }

    static int text(TroughTreaty x, String text) {
        byte[] bytes = text.getBytes(StandardCharsets.ISO_8859_1);
        feed(x, bytes);
        return x.text(bytes.length);
    }

    /** A new object with a text that has no FAULT. */
    static TroughTreaty told(String text) {
        TroughTreaty x = new TroughTreaty();
        if (text(x, text) < 0) {
            throw new IllegalStateException("FAULT " + x.fault(0) + " at " + x.fault(1) + " of " + text);
        }
        return x;
    }

    static int letters(String name) {
        int bits = 0;
        for (int i = 0; i < 6; i++) {
            bits = bits << 5 | (i < name.length() ? name.charAt(i) - 'a' + 1 : 0);
        }
        return bits;
    }

    /** 1: IndexOutOfBoundsException, 2: NoSuchElementException, 0: an answer. */
    static int thrown(TroughTreaty x, int horse, int what) {
        try {
            x.horse(horse, what);
            return 0;
        } catch (IndexOutOfBoundsException e) {
            return 1;
        } catch (NoSuchElementException e) {
            return 2;
        }
    }
}
