/** Objects in the midst of their use, for calls that must leave all as it was. */
final class Scenes {
    static final String TEXT = "road 30;trough a 5 40 3;trough b 12 0 7;horse h 0 5 30 2;horse k 1 5 10 1;horse m 2 20 99 3;"
            + "lap h b 12;rain 40;seed 8;law dry 1;law gulp 9 - pace;";

    private Scenes() {
    }

    /** HOUR 7: m FELL; an IMAGE, three deeds, five SEEN (KNOWN by 4), a FAULT, a TAPE of 20 bytes. */
    static TroughTreaty busy() {
        TroughTreaty x = Check.told(TEXT);
        x.see(1, 0, 30, true);
        x.see(2, 0, 25, false);
        x.strike(0);
        x.strike(2);
        x.see(3, 1, 1, true);
        x.known(4);
        x.go(4);
        x.keep();
        x.go(3);
        x.send(0, 1);
        x.fill(1, 20);
        x.lead(1, 9);
        Check.text(x, "road 61;");
        Check.feed(x, "rain 3;".getBytes());
        return x;
    }

    /** As many deeds and SEEN ones as there can be. */
    static TroughTreaty full() {
        TroughTreaty x = Check.told(TEXT);
        for (int i = 0; i < 24; i++) {
            x.see(1 + i, i % 2, i, true);
        }
        x.keep();
        for (int i = 0; i < 20; i++) {
            x.lead(0, i);
        }
        return x;
    }

    /** No HORSE is ON any more. */
    static TroughTreaty fallen() {
        TroughTreaty x = Check.told("trough a 5 0 0;trough b 9 30 2;horse h 0 5 95 2;horse k 1 5 94 1;rain 70;seed 3;");
        x.see(2, 0, 1, false);
        x.keep();
        x.go(8);
        x.fill(0, 4);
        return x;
    }
}
