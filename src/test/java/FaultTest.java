/** Promise 4 and the FAULTS of the terms: each kind, its place, the first along the text. */
public final class FaultTest {
    private static final Check CHECK = new Check();
    private static final String SIX_TROUGHS =
            "trough a 1 1 1;trough b 2 1 1;trough c 3 1 1;trough d 4 1 1;trough e 5 1 1;trough f 6 1 1;";
    private static final String SIX_HORSES =
            "horse a 0 1 1 1;horse b 0 1 1 1;horse c 0 1 1 1;horse d 0 1 1 1;horse e 0 1 1 1;horse f 0 1 1 1;";

    public static void main(String[] args) {
        tokens();
        places();
        tooMuch();
        toldAlready();
        notTold();
        laws();
        firstOfSeveral();
        CHECK.end();
    }

    private static void fault(int kind, String marked) {
        CHECK.fault(kind, marked);
    }

    private static void fine(int lines, String text) {
        CHECK.fine(lines, text);
    }

    private static void tokens() {
        for (String sign : new String[] {"!", "_", "A", "\t", "\r", "\0", ".", "&", "{", "\u00e9", "\u007f", "`", ":", ","}) {
            fault(1, "road 5; @" + sign);
            fault(1, "law dry 1 @" + sign + " 1;");
        }
        fault(1, "@5;");
        fault(1, "@;");
        fault(1, "road 5;@;");
        fault(1, "@roads 5;");
        fault(1, "@dry 5;");
        fault(1, "trough @abcdefg 1 1 1;");
        fault(1, "@abcdefg");
        fault(1, "law dry @abcdefg;");
        fault(1, "law dry @thirsts;");
        fault(1, "@troughs a 1 1 1;");
        fine(1, "trough abcdef 1 1 1;");
        for (String word : new String[] {"road", "trough", "horse", "lap", "rain", "seed", "law", "dry", "gulp", "fight",
            "and", "or", "not", "thirst", "pace", "side", "water", "far", "hurt", "hour"}) {
            fault(1, "trough @" + word + " 1 1 1;");
            fault(1, "horse @" + word + " 1 1 1 1;");
            fault(1, "lap @" + word);
        }
        fine(1, "horse fall 1 1 1 1;");
        fine(1, "horse orr 1 1 1 1;");
    }

    private static void places() {
        fault(1, "road@");
        fault(1, "road  @");
        fault(1, "road 5@");
        fault(1, "road 5 @5;");
        fault(1, "road @;");
        fault(1, "road @x;");
        fault(1, "trough@");
        fault(1, "trough @5 1 1 1;");
        fault(1, "trough a@");
        fault(1, "trough a @a 1 1;");
        fault(1, "trough a 1@");
        fault(1, "trough a 1 @a 1;");
        fault(1, "trough a 1 1@");
        fault(1, "trough a 1 1 @a;");
        fault(1, "trough a 1 1 1@");
        fault(1, "trough a 1 1 1 @1;");
        fault(1, "horse@");
        fault(1, "horse a@");
        fault(1, "horse a 1@");
        fault(1, "horse a 1 1@");
        fault(1, "horse a 1 1 1@");
        fault(1, "horse a 1 1 1 1@");
        fault(1, "horse a @;");
        fault(1, "horse a 1 @;");
        fault(1, "horse a 1 1 @;");
        fault(1, "horse a 1 1 1 @;");
        fault(1, "horse a 1 1 1 1 @1;");
        fault(1, "horse a 1 1 1 1;trough a 1 1 1;lap@");
        fault(1, "horse a 1 1 1 1;trough a 1 1 1;lap a@");
        fault(1, "horse a 1 1 1 1;trough a 1 1 1;lap a a@");
        fault(1, "horse a 1 1 1 1;trough a 1 1 1;lap a a 1@");
        fault(1, "horse a 1 1 1 1;trough a 1 1 1;lap a @1;");
        fault(1, "horse a 1 1 1 1;trough a 1 1 1;lap a a @a;");
        fault(1, "rain@");
        fault(1, "rain @;");
        fault(1, "rain 1@");
        fault(1, "rain 1 @1");
        fault(1, "seed@");
        fault(1, "seed @-1;");
        fault(1, "seed 1@");
        fault(1, "law@");
        fault(1, "law @thirst;");
        fault(1, "law dry@");
        fault(1, "law dry 1@");
        fault(1, "seed 1;@road 5;");
        fault(1, "road 5;@road 5;");
    }

    private static void tooMuch() {
        fault(2, "road @1;");
        fault(2, "road @61;");
        fault(2, "road @99999999999999999999999999999999999;");
        fault(2, "road @4294967301;");
        fine(1, "road 2;");
        fine(1, "road 0000000000000000060;");
        fault(2, "road 7;trough a @8 1 1;");
        fault(2, "trough a @21 1 1;");
        fine(1, "trough a 20 99 9;");
        fine(1, "trough a 0 0 0;");
        fault(2, "trough a 1 @100 1;");
        fault(2, "trough a 1 1 @10;");
        fault(2, "horse a @4 1 1 1;");
        fault(2, "road 7;horse a 3 @8 1 1;");
        fault(2, "horse a 3 7 @100 1;");
        fault(2, "horse a 3 7 99 @0;");
        fault(2, "horse a 3 7 99 @10;");
        fine(1, "horse a 3 20 99 9;");
        fine(1, "horse a 0 0 0 1;");
        fault(2, "horse a 1 1 1 1;trough a 1 1 1;lap a a @100;");
        fine(3, "horse a 1 1 1 1;trough a 1 1 1;lap a a 99;");
        fault(2, "rain @101;");
        fine(1, "rain 100;");
        fault(2, "seed @100000;");
        fine(1, "seed 99999;");
        fine(6, SIX_TROUGHS);
        fault(2, SIX_TROUGHS + "@trough");
        fine(6, SIX_HORSES);
        fault(2, SIX_HORSES + "@horse a 9");
        String laps = "horse a 1 1 1 1;trough a 1 1 1;" + "lap a a 1;".repeat(12);
        fine(14, laps);
        fault(2, laps + "@lap");
        fault(2, "law dry @10000;");
        fine(1, "law dry 9999;");
        fine(1, "law dry ((((((((1))))))));");
        fault(2, "law dry ((((((((@(1)))))))));");
        fine(1, "law dry ((((((((1)))))))) + ((((((((1))))))));");
    }

    private static void toldAlready() {
        fault(3, "trough a 1 1 1;trough @a 2 1 1;");
        fault(3, "trough a 1 1 1;trough b @1 1 1;");
        fault(3, "horse a 1 1 1 1;horse b 1 1 1 1;horse @b 2 1 1 1;");
        fine(2, "horse a 1 1 1 1;trough a 1 1 1;");
        fine(2, "horse a 1 1 1 1;horse b 1 1 1 1;");
        fault(3, "rain 1;@rain 1;");
        fault(3, "rain 0;@rain");
        fault(3, "seed 0;@seed 0;");
        fault(3, "law dry 1;law @dry 1;");
        fault(3, "law gulp 1;law @gulp");
        fault(3, "law fight 1;law gulp 1;law dry 1;law @fight");
        fine(3, "law fight 1;law gulp 1;law dry 1;");
    }

    private static void notTold() {
        fault(4, "lap @x a 1;");
        fault(4, "horse x 0 1 1 1;lap x @a 1;");
        fault(4, "trough a 1 1 1;lap @a a 1;");
        fault(4, "horse x 0 1 1 1;lap x @x 1;");
        fault(4, "horse x 0 1 1 1;lap x @a 1;trough a 1 1 1;");
    }

    private static void laws() {
        fault(1, "law dry @;");
        fault(1, "law dry @x;");
        fault(1, "law dry @dry;");
        fault(1, "law dry @law;");
        fault(1, "law dry 1 @1;");
        fault(1, "law dry 1 @thirst;");
        fault(1, "law dry 1 @(1);");
        fault(1, "law dry 1 @not 1;");
        fault(1, "law dry 1 + @not 1;");
        fault(1, "law dry 1 * @not 1;");
        fault(1, "law dry 1 < @not 1;");
        fault(1, "law dry not 1 + @not 1;");
        fine(1, "law dry 1 + (not 1);");
        fine(1, "law dry not not 1 and not 1 or not not not 1;");
        fault(1, "law dry 1 < 2 @< 3;");
        fault(1, "law dry 1 < 2 + 1 @= 3;");
        fault(1, "law dry 1 <> 2 * 1 @>= 3;");
        fault(1, "law dry not 1 < 2 @< 3;");
        fault(1, "law dry (1 < 2 @> 3);");
        fine(1, "law dry (1 < 2) < 3;");
        fine(1, "law dry 1 < (2 < 3);");
        fine(1, "law dry 1 < 2 and 2 < 3 or 3 <= 4;");
        fault(1, "law dry 1 < @= 2;");
        fault(1, "law dry 1 > @= 2;");
        fault(1, "law dry 1 > @> 2;");
        fault(1, "law dry 1 >@< 2;");
        fault(1, "law dry 1 =@= 2;");
        fault(1, "law dry 1 <=@= 2;");
        fault(1, "law dry 1 <>@= 2;");
        fault(1, "law dry 1 >=@> 2;");
        fine(1, "law dry 1<=2;");
        fine(1, "law dry 1<>2;");
        fine(1, "law dry 1>=2;");
        fault(1, "law dry @-1;");
        fault(1, "law dry @+ 1;");
        fault(1, "law dry 1 +@;");
        fault(1, "law dry 1 + @");
        fault(1, "law dry 1 and@;");
        fault(1, "law dry 1 or @and 1;");
        fault(1, "law dry not@;");
        fault(1, "law dry @);");
        fault(1, "law dry 1@);");
        fault(1, "law dry (@);");
        fault(1, "law dry (1@;");
        fault(1, "law dry (1@");
        fault(1, "law dry (1)@);");
        fault(1, "law dry (1 + @) 1;");
    }

    private static void firstOfSeveral() {
        // One KNOT more is fine, the next one is too much wherever it stands.
        String sixtyThree = "1" + "+1".repeat(31);
        fine(2, "law dry " + sixtyThree + ";law gulp 1;");
        fault(2, "law dry " + sixtyThree + ";law gulp 1@+1;");
        fault(2, "law dry " + sixtyThree + ";law gulp not @1;");
        fault(2, "law dry " + sixtyThree + ";law gulp not @hour;");
        fault(2, "law dry " + sixtyThree + ";law gulp 1;law fight @not");
        fault(2, "law dry " + sixtyThree + ";law gulp 1 @and;");
        fault(2, "law dry " + sixtyThree + ";law gulp 1 @or;");
        fault(2, "law dry " + sixtyThree + ";law gulp 1 @<> 1;");
        fault(1, "law dry " + sixtyThree + ";law gulp 1 @not;");
        fault(1, "law dry " + sixtyThree + ";law gulp 1 @dry;");
        fine(2, "law dry " + sixtyThree + ";law gulp ((1));");
        fault(1, "law gulp ((((((((1@");
        fault(2, "law gulp ((((((((@(");
        fault(1, "road 5 @: 99;");
        fault(1, SIX_TROUGHS + "@road");
        fault(2, "rain @200 rain;");
    }
}
