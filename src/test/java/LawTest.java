/** Promise 8: the E of laws, their NAMES, values and ERRORS, and what laws do in an HOUR. */
public final class LawTest {
    private static final Check CHECK = new Check();
    private static final long ERROR = Long.MIN_VALUE;

    public static void main(String[] args) {
        signs();
        errors();
        namesOfHorse();
        noSuchOnes();
        withinHours();
        CHECK.end();
    }

    private static void worth(String e, long want) {
        TroughTreaty x = Check.told("horse h 2 3 7 4;law gulp " + e + ";");
        CHECK.due(e, x.law(1, 0), want);
    }

    private static void signs() {
        worth("1 + 2 * 3", 7);
        worth("(1 + 2) * 3", 9);
        worth("9 - 4 - 3", 2);
        worth("9 - (4 - 3)", 8);
        worth("100 / 10 / 5", 2);
        worth("100 / 7 * 7", 98);
        worth("7 / 2", 3);
        worth("(0 - 7) / 2", -3);
        worth("7 / (0 - 2)", -3);
        worth("0 - 5", -5);
        worth("1 < 2", 1);
        worth("2 < 2", 0);
        worth("2 <= 2", 1);
        worth("3 <= 2", 0);
        worth("2 = 2", 1);
        worth("2 = 3", 0);
        worth("2 <> 3", 1);
        worth("2 <> 2", 0);
        worth("2 >= 2", 1);
        worth("1 >= 2", 0);
        worth("3 > 2", 1);
        worth("2 > 2", 0);
        worth("1 + 1 = 4 - 2", 1);
        worth("not 0", 1);
        worth("not 5", 0);
        worth("not not 5", 1);
        worth("not 1 = 2", 1);
        worth("(not 1) = 2", 0);
        worth("not 0 and 0", 0);
        worth("not (0 and 0)", 1);
        worth("5 and 6", 1);
        worth("5 and 0", 0);
        worth("0 or 7", 1);
        worth("0 or 0", 0);
        worth("1 or 0 and 0", 1);
        worth("(1 or 0) and 0", 0);
        worth("0 and 0 or 1", 1);
        worth("(1 < 2) + (2 < 3)", 2);
        worth("not 1 < 2 or 3 > 2 and 1", 1);
    }

    private static void errors() {
        worth("1 / 0", ERROR);
        worth("0 and 1 / 0", ERROR);
        worth("1 or 1 / 0", ERROR);
        worth("0 * (1 / 0)", ERROR);
        String million = "1000 * 1000";
        worth(million + " * " + million, 1000000000000L);
        worth("0 - " + million + " * " + million, -1000000000000L);
        worth(million + " * " + million + " + 0", 1000000000000L);
        worth("0 - " + million + " * " + million + " - 0", -1000000000000L);
        worth(million + " * " + million + " + 1", ERROR);
        worth("0 - " + million + " * " + million + " - 1", ERROR);
        worth(million + " * " + million + " - 1", 999999999999L);
        worth("(" + million + " * " + million + " + 1) / 2", ERROR);
        worth(million + " * " + million + " * 0", 0);
        worth("0 * (" + million + " * " + million + ")", 0);
        worth(million + " * " + million + " * (" + million + " * " + million + ")", ERROR);
        worth("(0 - " + million + ") * " + million, -1000000000000L);
        worth("(0 - " + million + " - 1) * " + million, ERROR);
        worth("9999 * 9999 * 9999", 999700029999L);
        worth("9999 * 9999 * (0 - 9999)", -999700029999L);
        worth("9999 * 9999 * 9999 * 9999", ERROR);
        worth("1 < 1 / 0", ERROR);
        worth("not 1 / 0", ERROR);
    }

    private static void namesOfHorse() {
        TroughTreaty x = Check.told("road 30;trough a 5 40 0;trough b 20 8 0;horse h 3 5 30 4;horse k 1 6 9 2;"
                + "law dry thirst * 100 + pace * 10 + side;law gulp water * 100 + far;law fight hurt * 100 + hour;");
        CHECK.due("thirst, pace, side", x.law(0, 0), 3043);
        CHECK.due("thirst, pace, side", x.law(0, 1), 921);
        CHECK.due("water, far without a GOAL", x.law(1, 0), 4000);
        CHECK.due("no TROUGH there", x.law(1, 1), 0);
        x.send(0, 1);
        x.send(1, 0);
        CHECK.due("far", x.law(1, 0), 4015);
        CHECK.due("far", x.law(1, 1), 1);
        CHECK.due("hurt, hour", x.law(2, 0), 0);
        Check.text(x, "horse h 0 0 0 1;horse k 1 0 0 1;law fight hurt * 100 + hour + 1;");
        x.go(2);
        // HURT: 1, then 1 + min(99, 1 * 100 + 1 + 1).
        CHECK.due("hurt, hour", x.law(2, 0), 10003);
        CHECK.due("it FELL", x.horse(0, 6), 0);
    }

    private static void noSuchOnes() {
        TroughTreaty x = Check.told("horse h 0 0 0 1;law gulp 5;");
        CHECK.due("told", x.law(1, 0), 5);
        CHECK.due("no dry", x.law(0, 0), ERROR);
        CHECK.due("no fight", x.law(2, 0), ERROR);
        CHECK.due("what 3", x.law(3, 0), ERROR);
        CHECK.due("what -1", x.law(-1, 0), ERROR);
        CHECK.due("horse 1", x.law(1, 1), ERROR);
        CHECK.due("horse -1", x.law(1, -1), ERROR);
        Check.text(x, "horse h 0 0 0 1;");
        CHECK.due("no law any more", x.law(1, 0), ERROR);
    }

    private static int thirstBehindOne(String law) {
        TroughTreaty x = Check.told("trough a 5 50 0;horse h 0 5 40 1;" + law);
        x.go(1);
        return x.horse(0, 2);
    }

    private static int hurtBehindOne(String law) {
        TroughTreaty x = Check.told("horse h 0 5 4 1;horse k 1 5 4 1;" + law);
        x.go(1);
        return x.horse(0, 5);
    }

    private static void withinHours() {
        CHECK.due("no laws", thirstBehindOne(""), 32);
        CHECK.due("dry 0", thirstBehindOne("law dry 0;"), 31);
        CHECK.due("dry below 0", thirstBehindOne("law dry 0 - 7;"), 31);
        CHECK.due("dry 50", thirstBehindOne("law dry 50;"), 81);
        CHECK.due("dry 100", thirstBehindOne("law dry 100;"), 130);
        CHECK.due("dry with an ERROR", thirstBehindOne("law dry 5 / 0;"), 32);
        CHECK.due("gulp 20", thirstBehindOne("law gulp 20;"), 21);
        CHECK.due("gulp 0", thirstBehindOne("law gulp 0;"), 41);
        CHECK.due("gulp below 0", thirstBehindOne("law gulp 0 - 3;"), 41);
        CHECK.due("gulp no more than THIRST", thirstBehindOne("law gulp 500;"), 0);
        CHECK.due("gulp no more than WATER", thirstBehindOne("law gulp 90;law dry 50;"), 40);
        CHECK.due("gulp with an ERROR", thirstBehindOne("law gulp 1 / 0;"), 32);
        CHECK.due("gulp of THIRST behind dry", thirstBehindOne("law dry 2;law gulp thirst - 40;"), 40);
        CHECK.due("fight", hurtBehindOne(""), 1);
        CHECK.due("fight 0", hurtBehindOne("law fight 0;"), 0);
        CHECK.due("fight below 0", hurtBehindOne("law fight 0 - 1;"), 0);
        CHECK.due("fight 99", hurtBehindOne("law fight 99;"), 99);
        CHECK.due("fight 5000", hurtBehindOne("law fight 5000;"), 99);
        CHECK.due("fight with an ERROR", hurtBehindOne("law fight 1 / 0;"), 1);
        CHECK.due("fight by THIRST", hurtBehindOne("law fight thirst;"), 5);
    }
}
