import java.nio.charset.StandardCharsets;

/** The boundaries that the document names of a TEXT, its LINES, E and FAULTS, a sentence each. */
public final class EdgeTextTest {
    private static final Check CHECK = new Check();
    private static final String[] LANGUAGE = {"road", "trough", "horse", "lap", "rain", "seed", "law", "dry", "gulp", "fight",
        "and", "or", "not", "thirst", "pace", "side", "water", "far", "hurt", "hour"};
    private static final String PAIR = "trough a 1 1 1;horse h 0 1 1 1;";

    public static void main(String[] args) {
        anyLines();
        smallLetters();
        lettersOfNames();
        wordsOfTheLanguage();
        digits();
        blanks();
        numbersOfE();
        signsOfTwo();
        oneComparison();
        road();
        troughs();
        horses();
        laps();
        rain();
        seed();
        numberedAsTheyCome();
        noTokenHere();
        moreMustCome();
        roadBehindTheFirst();
        openOnes();
        knots();
        knotsOfEachKind();
        toldAlready();
        notToldAhead();
        firstAlongTheText();
        leastOfOnePlace();
        CHECK.end();
    }

    private static void anyLines() {
        CHECK.about("TEXT: { LINE ';' }");
        CHECK.fine(0, "");
        CHECK.fine(0, " \n ");
        CHECK.fine(1, "road 5;");
        CHECK.fine(1, "\n road 5 ; \n");
        // All that one TEXT can tell.
        CHECK.fine(30, "road 20;" + troughs(6) + horses(6) + "lap a a 1;".repeat(12) + "rain 1;seed 1;law dry 1;law gulp 1;law fight 1;");
        CHECK.fault(1, "@;");
        CHECK.fault(1, "road 5;@;");
        CHECK.fault(1, "road 5@");
        CHECK.fault(1, "road 5 @seed 5;");
    }

    private static void smallLetters() {
        CHECK.about("Words: small letters in a row");
        CHECK.fine(1, "trough a 1 1 1;");
        CHECK.fine(1, "trough z 1 1 1;");
        CHECK.fault(1, "trough @` 1 1 1;");
        CHECK.fault(1, "trough @{ 1 1 1;");
        CHECK.fault(1, "trough @A 1 1 1;");
        CHECK.fault(1, "trough @Z 1 1 1;");
        CHECK.fault(1, "trough a@B 1 1 1;");
        CHECK.fault(1, "@Road 5;");
        CHECK.fault(1, "@ro" + (char) 0xe4 + "d 5;");
        CHECK.fault(1, "trough @" + (char) 0xe1 + " 1 1 1;");
        CHECK.fault(1, "trough a @b 1 1 1;");
    }

    private static void lettersOfNames() {
        CHECK.about("W: one of 1 .. 6 letters");
        CHECK.fine(1, "trough q 1 1 1;");
        CHECK.fine(1, "trough qwertz 1 1 1;");
        CHECK.fault(1, "trough @qwertzu 1 1 1;");
        CHECK.fault(1, "trough @1 1 1;");
        CHECK.fine(1, "horse q 0 1 1 1;");
        CHECK.fine(1, "horse qwertz 0 1 1 1;");
        CHECK.fault(1, "horse @qwertzu 0 1 1 1;");
        CHECK.fault(1, "horse @0 1 1 1;");
        CHECK.fault(1, PAIR + "lap @qwertzu a 1;");
        CHECK.fault(1, PAIR + "lap h @qwertzu 1;");
        CHECK.about("1: a word of more than 6 letters that isn't of the language");
        CHECK.fault(1, "@qwertzu");
        CHECK.fault(1, "@troughs");
        CHECK.fault(1, "law dry @thirsty;");
        CHECK.fault(1, "law dry 1 @abcdefghijklmnopqrstuvwxyz");
        // Its first six letters are a name that is told.
        CHECK.fault(1, "horse abcdef 0 1 1 1;trough a 1 1 1;lap @abcdefg a 1;");
    }

    private static void wordsOfTheLanguage() {
        CHECK.about("W: none of those of the language");
        for (String word : LANGUAGE) {
            CHECK.fault(1, "trough @" + word + " 1 1 1;");
            CHECK.fault(1, "horse @" + word + " 0 1 1 1;");
            CHECK.fault(1, PAIR + "lap @" + word + " a 1;");
            CHECK.fault(1, PAIR + "lap h @" + word + " 1;");
            if (word.length() < 6) {
                CHECK.fine(1, "trough " + word + "x 1 1 1;");
                CHECK.fine(1, "horse " + word + "s 0 1 1 1;");
            }
            if (word.length() > 2) {
                CHECK.fine(1, "trough " + word.substring(1) + "q 1 1 1;");
            }
        }
        CHECK.fine(2, "trough o 1 1 1;horse n 0 1 1 1;");
    }

    private static void digits() {
        CHECK.about("N: digits");
        CHECK.fine(1, "road 19;");
        CHECK.fine(1, "rain 0;");
        CHECK.fine(1, "rain 90;");
        CHECK.fine(1, "rain 00000000000000000000000000000000000000100;");
        CHECK.fault(1, "rain @/;");
        CHECK.fault(1, "rain @:;");
        CHECK.fault(1, "rain 1@:;");
        CHECK.fault(1, "rain 1@/;");
        CHECK.fault(1, "rain 1 @0;");
        CHECK.fault(1, "rain @-1;");
        CHECK.fault(1, "rain @+1;");
        CHECK.fault(1, "rain 1@x;");
    }

    private static void blanks() {
        CHECK.about("Blanks 10, 32");
        CHECK.fine(2, " \n\n  road\n5\n;\n rain 1 ;");
        for (int sign : new int[] {0, 1, 9, 11, 12, 13, 31, 33, 127, 128, 138, 160, 255}) {
            CHECK.fault(1, "@" + (char) sign + "road 5;");
            CHECK.fault(1, "road@" + (char) sign + "5;");
            CHECK.fault(1, "road 5;@" + (char) sign);
        }
        CHECK.fault(1, "@ro ad 5;");
        CHECK.fault(1, "law dry 1 < @= 1;");
    }

    private static void numbersOfE() {
        CHECK.about("N of E 0 .. 9999");
        CHECK.fine(1, "law dry 0;");
        CHECK.fine(1, "law dry 9999;");
        CHECK.fine(1, "law dry 009999;");
        CHECK.fault(2, "law dry @10000;");
        CHECK.fault(2, "law dry 1 + (@10000);");
        CHECK.fault(2, "law dry @4294967297;");
        CHECK.fault(2, "law dry @18446744073709551617;");
        CHECK.due("9999", Check.told("horse h 0 1 1 1;law dry 9999;").law(0, 0), 9999);
    }

    private static void signsOfTwo() {
        CHECK.about("A = (or > behind <) right behind < or > belongs to it");
        worth("1<=1", 1);
        worth("1<>1", 0);
        worth("1>=1", 1);
        CHECK.fault(1, "law dry 1< @=1;");
        CHECK.fault(1, "law dry 1< @>1;");
        CHECK.fault(1, "law dry 1> @=1;");
        CHECK.fault(1, "law dry 1>@>1;");
        CHECK.fault(1, "law dry 1>@<1;");
        CHECK.fault(1, "law dry 1<@<1;");
        CHECK.fault(1, "law dry 1=@=1;");
        CHECK.fault(1, "law dry 1=@<1;");
        CHECK.fault(1, "law dry 1=@>1;");
        CHECK.fault(1, "law dry 1<=@>1;");
        CHECK.fault(1, "law dry 1<>@=1;");
        CHECK.fault(1, "law dry 1>=@=1;");
        CHECK.fault(1, "law dry 1<@");
        CHECK.fault(1, "law dry 1<=@");
    }

    private static void worth(String e, long want) {
        CHECK.due(e, Check.told("horse h 0 1 1 1;law dry " + e + ";").law(0, 0), want);
    }

    private static void oneComparison() {
        CHECK.about("C: S [ sign S ]: one at most");
        for (String sign : new String[] {"<", "<=", "=", "<>", ">=", ">"}) {
            CHECK.fine(1, "law dry 1 " + sign + " 2;");
            CHECK.fault(1, "law dry 1 " + sign + " 2 @" + sign + " 3;");
            CHECK.fault(1, "law dry 1 + 1 " + sign + " 2 * 2 @" + sign + " 3;");
            CHECK.fault(1, "law dry 1 " + sign + " 2 + 2 @" + sign + " 3;");
            CHECK.fault(1, "law dry not 1 " + sign + " 2 - 2 @" + sign + " 3;");
            CHECK.fine(1, "law dry (1 " + sign + " 2) " + sign + " 3;");
            CHECK.fine(1, "law dry 1 " + sign + " 2 and 2 " + sign + " 3;");
        }
        CHECK.about("B: not B | C: no not behind a sign of C");
        CHECK.fine(1, "law dry not not not 1;");
        CHECK.fine(1, "law dry 1 and not 1 or not 1;");
        for (String sign : new String[] {"<", "=", "+", "-", "*", "/"}) {
            CHECK.fault(1, "law dry 1 " + sign + " @not 1;");
            CHECK.fine(1, "law dry 1 " + sign + " (not 1);");
        }
    }

    private static void road() {
        CHECK.about("road: its LENGTH 2 .. 60");
        CHECK.fault(2, "road @0;");
        CHECK.fault(2, "road @1;");
        CHECK.fine(1, "road 2;");
        CHECK.fine(1, "road 60;");
        CHECK.fault(2, "road @61;");
        CHECK.due("2", Check.told("road 2;").count(3), 2);
        CHECK.due("60", Check.told("road 60;").count(3), 60);
        CHECK.about("road: 20 without");
        CHECK.due("without", Check.told("rain 5;").count(3), 20);
        CHECK.due("no LINES", Check.told("").count(3), 20);
        CHECK.fine(1, "trough a 20 1 1;");
        CHECK.fault(2, "trough a @21 1 1;");
        CHECK.about("road: only as the first LINE");
        CHECK.fine(2, "road 5;rain 1;");
        CHECK.fault(1, "rain 1;@road 5;");
    }

    private static String troughs(int many) {
        StringBuilder text = new StringBuilder();
        for (int i = 0; i < many; i++) {
            text.append("trough ").append((char) ('a' + i)).append(' ').append(i).append(" 1 1;");
        }
        return text.toString();
    }

    private static String horses(int many) {
        StringBuilder text = new StringBuilder();
        for (int i = 0; i < many; i++) {
            text.append("horse ").append((char) ('a' + i)).append(" 0 5 1 1;");
        }
        return text.toString();
    }

    private static void troughs() {
        CHECK.about("TROUGHS, at most 6");
        CHECK.fine(6, troughs(6));
        CHECK.due("six", Check.told(troughs(6)).count(0), 6);
        CHECK.fault(2, troughs(6) + "@trough g 6 1 1;");
        CHECK.fault(2, troughs(6) + "@trough");
        CHECK.fine(12, troughs(6) + horses(6));
        CHECK.about("TROUGHS: a PLACE 0 .. LENGTH");
        CHECK.fine(1, "trough a 0 1 1;");
        CHECK.fine(2, "road 2;trough a 2 1 1;");
        CHECK.fault(2, "road 2;trough a @3 1 1;");
        CHECK.fine(2, "road 60;trough a 60 1 1;");
        CHECK.fault(2, "road 60;trough a @61 1 1;");
        CHECK.about("TROUGHS: one there at most");
        CHECK.fine(2, "trough a 0 1 1;trough b 1 1 1;");
        CHECK.fault(3, "trough a 0 1 1;trough b @0 1 1;");
        CHECK.fault(3, "road 60;trough a 60 1 1;trough b @60 1 1;");
        CHECK.about("TROUGHS: WATER 0 .. 99");
        CHECK.fine(1, "trough a 1 0 1;");
        CHECK.fine(1, "trough a 1 99 1;");
        CHECK.fault(2, "trough a 1 @100 1;");
        CHECK.about("TROUGHS: FILL 0 .. 9");
        CHECK.fine(1, "trough a 1 1 0;");
        CHECK.fine(1, "trough a 1 1 9;");
        CHECK.fault(2, "trough a 1 1 @10;");
    }

    private static void horses() {
        CHECK.about("HORSES, at most 6");
        CHECK.fine(6, horses(6));
        CHECK.due("six", Check.told(horses(6)).count(1), 6);
        CHECK.fault(2, horses(6) + "@horse g 0 1 1 1;");
        CHECK.fault(2, horses(6) + "@horse");
        CHECK.about("HORSES: a SIDE 0 .. 3");
        CHECK.fine(1, "horse a 0 1 1 1;");
        CHECK.fine(1, "horse a 3 1 1 1;");
        CHECK.fault(2, "horse a @4 1 1 1;");
        CHECK.about("HORSES: a PLACE 0 .. LENGTH");
        CHECK.fine(1, "horse a 0 0 1 1;");
        CHECK.fine(1, "horse a 0 20 1 1;");
        CHECK.fault(2, "horse a 0 @21 1 1;");
        CHECK.fine(2, "road 2;horse a 0 2 1 1;");
        CHECK.fault(2, "road 2;horse a 0 @3 1 1;");
        CHECK.fine(2, "road 60;horse a 0 60 1 1;");
        CHECK.fault(2, "road 60;horse a 0 @61 1 1;");
        CHECK.fine(2, "horse a 0 1 1 1;horse b 0 1 1 1;");
        CHECK.about("HORSES: THIRST 0 .. 99");
        CHECK.fine(1, "horse a 0 1 0 1;");
        CHECK.fine(1, "horse a 0 1 99 1;");
        CHECK.fault(2, "horse a 0 1 @100 1;");
        CHECK.about("HORSES: PACE 1 .. 9");
        CHECK.fault(2, "horse a 0 1 1 @0;");
        CHECK.fine(1, "horse a 0 1 1 1;");
        CHECK.fine(1, "horse a 0 1 1 9;");
        CHECK.fault(2, "horse a 0 1 1 @10;");
    }

    private static void laps() {
        CHECK.about("LAPS, at most 12");
        CHECK.fine(14, PAIR + "lap h a 1;".repeat(12));
        CHECK.due("twelve", Check.told(PAIR + "lap h a 1;".repeat(12)).count(2), 12);
        CHECK.fault(2, PAIR + "lap h a 1;".repeat(12) + "@lap h a 1;");
        CHECK.fault(2, PAIR + "lap h a 1;".repeat(12) + "@lap");
        CHECK.about("LAPS: at an HOUR 0 .. 99");
        CHECK.fine(3, PAIR + "lap h a 0;");
        CHECK.fine(3, PAIR + "lap h a 99;");
        CHECK.fault(2, PAIR + "lap h a @100;");
    }

    private static void rain() {
        CHECK.about("rain: of a hundred 0 .. 100");
        CHECK.fine(1, "rain 0;");
        CHECK.fine(1, "rain 100;");
        CHECK.fault(2, "rain @101;");
        CHECK.about("rain: (0)");
        CHECK.due("without", Check.told("").staysDry(1, 0), 1);
        CHECK.due("without", Check.told("").staysDry(1, 1), 1);
    }

    private static void seed() {
        CHECK.about("seed: 0 .. 99999");
        CHECK.fine(1, "seed 0;");
        CHECK.fine(1, "seed 99999;");
        CHECK.fault(2, "seed @100000;");
        CHECK.about("seed: (0)");
        String drops = troughs(6) + "rain 50;";
        CHECK.due("without", waters(drops).equals(waters(drops + "seed 0;")), true);
        CHECK.due("with another one", waters(drops).equals(waters(drops + "seed 99999;")), false);
    }

    private static String waters(String text) {
        TroughTreaty x = Check.told(text);
        x.go(30);
        StringBuilder all = new StringBuilder();
        for (int i = 0; i < 6; i++) {
            all.append(x.trough(i, 1)).append(' ');
        }
        return all.toString();
    }

    private static void numberedAsTheyCome() {
        CHECK.about("All numbered as they come");
        TroughTreaty x = Check.told("trough z 9 1 1;horse b 0 1 1 1;trough a 3 1 1;horse a 0 2 1 1;");
        CHECK.due("trough z", x.named(0, Check.letters("z")), 0);
        CHECK.due("trough a", x.named(0, Check.letters("a")), 1);
        CHECK.due("horse b", x.named(1, Check.letters("b")), 0);
        CHECK.due("horse a", x.named(1, Check.letters("a")), 1);
        CHECK.about("TROUGHS, HORSES have names of their kind");
        CHECK.fine(2, "trough a 1 1 1;horse a 0 1 1 1;");
        CHECK.fault(3, "trough a 1 1 1;trough @a 2 1 1;");
        CHECK.fault(3, "horse a 0 1 1 1;horse @a 0 1 1 1;");
    }

    private static void noTokenHere() {
        CHECK.about("1: a TOKEN that can't stand there");
        CHECK.fault(1, "@5;");
        CHECK.fault(1, "@x 5;");
        CHECK.fault(1, "@dry 5;");
        CHECK.fault(1, "@( 5;");
        CHECK.fault(1, "road @road;");
        CHECK.fault(1, "road @(5);");
        CHECK.fault(1, "trough @5 1 1 1;");
        CHECK.fault(1, "trough a @b 1 1;");
        CHECK.fault(1, "trough a 1 @b 1;");
        CHECK.fault(1, "trough a 1 1 @b;");
        CHECK.fault(1, "trough a 1 1 @;");
        CHECK.fault(1, "trough a 1 1 1 @1;");
        CHECK.fault(1, "horse a 0 1 1 @;");
        CHECK.fault(1, "horse a 0 1 1 1 @1;");
        CHECK.fault(1, PAIR + "lap h @1;");
        CHECK.fault(1, PAIR + "lap h a @;");
        CHECK.fault(1, PAIR + "lap h a @h;");
        CHECK.fault(1, PAIR + "lap h a 1 @1;");
        CHECK.fault(1, "rain @x;");
        CHECK.fault(1, "seed 5 @5;");
        CHECK.fault(1, "law @5;");
        CHECK.fault(1, "law @and 5;");
        CHECK.fault(1, "law @hour 5;");
        CHECK.fault(1, "law dry @gulp;");
        CHECK.fault(1, "law dry @x;");
        CHECK.fault(1, "law dry @;");
        CHECK.fault(1, "law dry 1 @1;");
        CHECK.fault(1, "law dry @- 1;");
        CHECK.fault(1, "law dry (@);");
        CHECK.fault(1, "law dry (1@;");
        CHECK.fault(1, "law dry 1@);");
        CHECK.fault(1, "law dry 1 or @or 1;");
        CHECK.fault(1, "law dry not @and 1;");
        CHECK.fault(1, "law dry 1 + @* 1;");
    }

    private static void moreMustCome() {
        CHECK.about("1: the length, if more must come");
        String text = PAIR + "lap h a 1;law dry not (1 + 2) * 3 <= 4 and 5 or thirst;";
        int lines = 0;
        for (int n = 0; n <= text.length(); n++) {
            String part = text.substring(0, n);
            boolean whole = part.isBlank() || part.endsWith(";");
            lines += part.endsWith(";") ? 1 : 0;
            TroughTreaty x = new TroughTreaty();
            Check.feed(x, text.getBytes(StandardCharsets.ISO_8859_1));
            CHECK.due("text(" + n + ") of " + part, x.text(n), whole ? lines : -1);
            CHECK.due("its FAULT", x.fault(0), whole ? 0 : 1);
            // A word that is cut is another word, none of the language, and so a FAULT where it starts.
            int place = n;
            while (n < text.length() && isLetter(text.charAt(n)) && place > 0 && isLetter(text.charAt(place - 1))) {
                place--;
            }
            CHECK.due("its place", x.fault(1), whole ? -1 : place);
        }
        CHECK.fault(1, "road @");
        CHECK.fault(1, "road 5 \n @");
    }

    private static boolean isLetter(char sign) {
        return sign >= 'a' && sign <= 'z';
    }

    private static void roadBehindTheFirst() {
        CHECK.about("1: a road that isn't the first LINE");
        CHECK.fault(1, "road 5;@road 5;");
        CHECK.fault(1, "trough a 1 1 1;@road 5;");
        CHECK.fault(1, "law dry 1;@road");
        CHECK.fault(1, "rain 1;seed 1;@road 99;");
    }

    private static void openOnes() {
        CHECK.about("2: a ninth '(' open");
        CHECK.fine(1, "law dry ((((((((1))))))));");
        CHECK.fault(2, "law dry ((((((((@(1)))))))));");
        CHECK.fault(2, "law dry 1 + ((((((((@(");
        CHECK.fine(1, "law dry ((((((((1)))))))) + ((((((((1))))))));");
        CHECK.fine(1, "law dry (((((((1) + (1))))))) + (1);");
        CHECK.fine(2, "law dry ((((((((1))))))));law gulp ((((((((1))))))));");
        CHECK.fault(2, "law dry (((((((1) + ((@(1)))))))));");
    }

    private static void knots() {
        CHECK.about("2: a 65th KNOT of all E");
        String sixtyThree = "1" + "+1".repeat(31);
        CHECK.fine(1, "law dry not " + sixtyThree + ";");
        CHECK.due("64", Check.told("law dry not " + sixtyThree + ";").count(4), 64);
        CHECK.fault(2, "law dry " + sixtyThree + "+@1;");
        CHECK.fault(2, "law dry not " + sixtyThree + "@+1;");
        CHECK.fine(2, "law dry " + sixtyThree + ";law gulp 1;");
        CHECK.due("64", Check.told("law dry " + sixtyThree + ";law gulp 1;").count(4), 64);
        CHECK.fault(2, "law dry " + sixtyThree + ";law gulp 1;law fight @1;");
        CHECK.fault(2, "law dry 1;law gulp 1;law fight " + "1+".repeat(31) + "@1;");
        worth("not " + sixtyThree, 0);
        worth("1 - (" + sixtyThree.substring(2) + ")", -30);
        // As many as can wait for their right side: 63 not in eight '('.
        worth("((((((((" + "not ".repeat(63) + "1))))))))", 0);
        TroughTreaty x = new TroughTreaty();
        for (int i = 0; i < 5; i++) {
            CHECK.due("a TEXT anew", Check.text(x, "horse h 0 1 1 1;law dry not " + sixtyThree + ";"), 2);
            CHECK.due("64 again", x.count(4), 64);
            CHECK.due("its E", x.law(0, 0), 0);
            CHECK.due("a FAULT", Check.text(x, "law dry 1 + (2 * (not "), -1);
        }
        CHECK.due("a TEXT behind a FAULT", Check.text(x, "horse h 0 1 1 1;law dry 1 + 1;law gulp 5;law fight (7);"), 4);
        CHECK.due("dry", x.law(0, 0), 2);
        CHECK.due("gulp", x.law(1, 0), 5);
        CHECK.due("fight", x.law(2, 0), 7);
    }

    private static void knotsOfEachKind() {
        CHECK.about("KNOT: N, NAMES, signs, not, and, or: one each");
        String sixtyFour = "not 1" + "+1".repeat(31);
        String dry = "law dry " + sixtyFour + ";law gulp ";
        CHECK.fault(2, dry + "@0;");
        CHECK.fault(2, dry + "@not 0;");
        for (int i = 13; i < LANGUAGE.length; i++) {
            CHECK.fault(2, dry + "@" + LANGUAGE[i] + ";");
        }
        CHECK.fault(2, dry + "((((((((@1))))))));");
        for (String sign : new String[] {"<", "<=", "=", "<>", ">=", ">", "+", "-", "*", "/", "and", "or"}) {
            CHECK.fault(2, "law dry " + sixtyFour.substring(4) + ";law gulp 1 @" + sign + " 1;");
            CHECK.due(sign, Check.told("law dry 1 " + sign + " 1;").count(4), 3);
        }
        CHECK.due("not", Check.told("law dry not not 1;").count(4), 3);
        CHECK.due("( )", Check.told("law dry ((1));").count(4), 1);
    }

    private static void toldAlready() {
        CHECK.about("3 told already: a name of its kind (at W)");
        CHECK.fault(3, "trough abcdef 1 1 1;trough @abcdef 2 1 1;");
        CHECK.fine(2, "trough abcdef 1 1 1;trough abcdeg 2 1 1;");
        CHECK.fine(2, "trough a 1 1 1;trough aa 2 1 1;");
        CHECK.fault(3, horses(5) + "horse @e 0 1 1 1;");
        CHECK.about("3 told already: a TROUGH at a PLACE (at it)");
        CHECK.fault(3, troughs(5) + "trough f @4 1 1;");
        CHECK.fine(6, troughs(5) + "trough f 5 1 1;");
        CHECK.about("3 told already: rain, seed (at the word)");
        CHECK.fault(3, "rain 0;@rain 0;");
        CHECK.fault(3, "seed 0;@seed 0;");
        CHECK.fine(2, "seed 0;rain 0;");
        CHECK.about("3 told already: a law of its LAW (at LAW)");
        for (String law : new String[] {"dry", "gulp", "fight"}) {
            CHECK.fault(3, "law " + law + " 1;law @" + law + " 1;");
        }
        CHECK.fine(3, "law dry 1;law gulp 1;law fight 1;");
    }

    private static void notToldAhead() {
        CHECK.about("4 a TROUGH, a HORSE that isn't told ahead (at W)");
        CHECK.fault(4, "lap @h a 1;");
        CHECK.fault(4, PAIR + "lap @a a 1;");
        CHECK.fault(4, PAIR + "lap h @h 1;");
        CHECK.fault(4, "horse h 0 1 1 1;lap h @a 1;trough a 1 1 1;");
        CHECK.fault(4, "trough a 1 1 1;lap @h a 1;horse h 0 1 1 1;");
        CHECK.fault(4, PAIR + "lap @hh a 1;");
        CHECK.fine(3, PAIR + "lap h a 1;");
        TroughTreaty x = Check.told(PAIR);
        CHECK.due("told in another TEXT", Check.text(x, "lap h a 1;"), -1);
        CHECK.due("its FAULT", x.fault(0), 4);
        CHECK.due("its place", x.fault(1), 4);
    }

    private static void firstAlongTheText() {
        CHECK.about("FAULTS, the first along the text");
        CHECK.fault(2, "road @61;!");
        CHECK.fault(1, "@! road 61;");
        CHECK.fault(3, "rain 1;@rain 101;!");
        CHECK.fault(4, "lap @x !");
        CHECK.fault(2, troughs(6) + "@trough a 99 100 10");
        CHECK.fault(3, "trough a 1 1 1;trough @a 1 100");
        CHECK.fault(3, "trough a 1 1 1;trough b @1 100");
        CHECK.fault(2, "trough a 1 1 1;trough b 2 @100 99");
        CHECK.fault(2, "horse a @4 99 100 10");
        CHECK.fault(2, "law dry (@10000;");
    }

    private static void leastOfOnePlace() {
        CHECK.about("FAULTS: of one place the least");
        String sixtyFour = "not 1" + "+1".repeat(31);
        CHECK.fault(1, "law dry " + sixtyFour + " @not");
        CHECK.fault(1, "law dry " + sixtyFour + " @5");
        CHECK.fault(1, "law dry " + sixtyFour + " @hour");
        CHECK.fault(1, "law dry " + sixtyFour + ";law gulp @+");
        CHECK.fault(1, "law dry 1 @10000;");
        CHECK.fault(1, "law dry ((((((((1@(");
        CHECK.fault(1, "road 5 @99999;");
        CHECK.fault(1, "trough @99;");
        CHECK.fault(1, "rain 5;@road 61;");
    }
}
