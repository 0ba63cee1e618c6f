import java.math.BigInteger;
import java.util.ArrayList;
import java.util.Arrays;
import java.util.HashMap;
import java.util.HashSet;
import java.util.List;
import java.util.Map;
import java.util.NoSuchElementException;
import java.util.Set;
import java.util.function.IntPredicate;
import java.util.regex.Matcher;
import java.util.regex.Pattern;

/**
 * The document told a second time, in the plainest and slowest way: trees, lists, big numbers and
 * searches through all there is. OracleTest compares its answers with those of the program.
 */
final class Oracle {
    private static final Set<String> WORDS = Set.of("road", "trough", "horse", "lap", "rain", "seed", "law", "dry", "gulp",
            "fight", "and", "or", "not", "thirst", "pace", "side", "water", "far", "hurt", "hour");
    private static final Set<String> NAMES = Set.of("thirst", "pace", "side", "water", "far", "hurt", "hour");
    private static final List<String> LAWS = List.of("dry", "gulp", "fight");
    private static final BigInteger LIMIT = BigInteger.TEN.pow(12);

    record Trough(String name, int place, int water, int fill) { }

    record Horse(String name, int side, int place, int thirst, int pace) { }

    record Lap(int horse, int trough, int hour) { }

    record Token(String text, int place) { }

    record Sight(int hours, int trough, int water, boolean atLeast, int strikes) { }

    /** A part of an E: a number, a NAME, or a sign with its sides. */
    record Knot(String text, Knot left, Knot right) { }

    static final class Fault extends Exception {
        private static final long serialVersionUID = 1;
        final int kind;
        final int place;

        Fault(int kind, int place) {
            this.kind = kind;
            this.place = place;
        }
    }

    static final class Told {
        int length = 20;
        int rain = 0;
        long seed = 0;
        int lines = 0;
        int knots = 0;
        boolean rainTold = false;
        boolean seedTold = false;
        final List<Trough> troughs = new ArrayList<>();
        final List<Horse> horses = new ArrayList<>();
        final List<Lap> laps = new ArrayList<>();
        final Map<String, Knot> laws = new HashMap<>();
    }

    /** A horse as it stands now. */
    static final class Beast {
        int place;
        int thirst;
        int hurt = 0;
        int goal = -2;
        int drank = 0;
        boolean on = true;
    }

    final class State {
        int hour = 0;
        long number = told.seed;
        int fights = 0;
        int talks = 0;
        int drunk = 0;
        final List<Beast> beasts = new ArrayList<>();
        final int[] water = told.troughs.stream().mapToInt(Trough::water).toArray();
        Set<Set<Integer>> talked = new HashSet<>();
        Set<Set<Integer>> fought = new HashSet<>();
        final List<Integer> fightPlaces = new ArrayList<>();
        // How the hours go: by chance or not, and what is otherwise.
        boolean byChance = true;
        boolean noRain = false;
        boolean noDrink = false;
        int pace = 1;

        State() {
            for (Horse horse : told.horses) {
                Beast beast = new Beast();
                beast.place = horse.place();
                beast.thirst = horse.thirst();
                beasts.add(beast);
            }
        }

        State copy() {
            State other = new State();
            other.hour = hour;
            other.number = number;
            other.fights = fights;
            other.talks = talks;
            other.drunk = drunk;
            System.arraycopy(water, 0, other.water, 0, water.length);
            other.talked.addAll(talked);
            other.fought.addAll(fought);
            for (int i = 0; i < beasts.size(); i++) {
                Beast from = beasts.get(i);
                Beast to = other.beasts.get(i);
                to.place = from.place;
                to.thirst = from.thirst;
                to.hurt = from.hurt;
                to.goal = from.goal;
                to.drank = from.drank;
                to.on = from.on;
            }
            return other;
        }

        State asItGoes() {
            State other = copy();
            other.byChance = false;
            return other;
        }

        int troughAt(int place) {
            for (int i = 0; i < told.troughs.size(); i++) {
                if (told.troughs.get(i).place() == place) {
                    return i;
                }
            }
            return -1;
        }

        BigInteger name(String name, int i) {
            Beast beast = beasts.get(i);
            Horse horse = told.horses.get(i);
            int trough = troughAt(beast.place);
            long value = switch (name) {
                case "thirst" -> beast.thirst;
                case "pace" -> horse.pace() * pace;
                case "side" -> horse.side();
                case "water" -> trough < 0 ? 0 : water[trough];
                case "far" -> beast.goal < 0 ? 0 : Math.abs(told.troughs.get(beast.goal).place() - beast.place);
                case "hurt" -> beast.hurt;
                default -> hour;
            };
            return BigInteger.valueOf(value);
        }

        /** null: an ERROR. */
        BigInteger worth(Knot knot, int i) {
            if (Character.isDigit(knot.text().charAt(0))) {
                return new BigInteger(knot.text());
            }
            if (NAMES.contains(knot.text())) {
                return name(knot.text(), i);
            }
            BigInteger a = worth(knot.left(), i);
            BigInteger b = knot.right() == null ? BigInteger.ZERO : worth(knot.right(), i);
            if (a == null || b == null) {
                return null;
            }
            int c = a.compareTo(b);
            BigInteger value = switch (knot.text()) {
                case "+" -> a.add(b);
                case "-" -> a.subtract(b);
                case "*" -> a.multiply(b);
                case "/" -> b.signum() == 0 ? null : a.divide(b);
                case "<" -> truth(c < 0);
                case "<=" -> truth(c <= 0);
                case "=" -> truth(c == 0);
                case "<>" -> truth(c != 0);
                case ">=" -> truth(c >= 0);
                case ">" -> truth(c > 0);
                case "and" -> truth(a.signum() != 0 && b.signum() != 0);
                case "or" -> truth(a.signum() != 0 || b.signum() != 0);
                default -> truth(a.signum() == 0);
            };
            return value == null || value.abs().compareTo(LIMIT) > 0 ? null : value;
        }

        int amount(String law, int i, int without) {
            Knot knot = told.laws.get(law);
            BigInteger value = knot == null ? null : worth(knot, i);
            return value == null ? without : value.max(BigInteger.ZERO).min(BigInteger.valueOf(99)).intValue();
        }

        void hour() {
            for (Lap lap : told.laps) {
                if (lap.hour() == hour) {
                    beasts.get(lap.horse()).goal = lap.trough();
                }
            }
            for (int i = 0; i < beasts.size(); i++) {
                Beast beast = beasts.get(i);
                if (!beast.on) {
                    continue;
                }
                for (int step = 0; step < told.horses.get(i).pace() * pace && beast.goal >= 0; step++) {
                    beast.place += Integer.signum(told.troughs.get(beast.goal).place() - beast.place);
                }
                beast.thirst += amount("dry", i, 1);
            }
            for (int i = 0; i < beasts.size(); i++) {
                Beast beast = beasts.get(i);
                beast.drank = 0;
                int trough = troughAt(beast.place);
                if (beast.on && trough >= 0 && !noDrink && beast.thirst > 0 && water[trough] > 0) {
                    beast.drank = Math.min(amount("gulp", i, 9), Math.min(beast.thirst, water[trough]));
                    beast.thirst -= beast.drank;
                    water[trough] -= beast.drank;
                    drunk += beast.drank;
                }
            }
            pairs();
            for (Beast beast : beasts) {
                beast.on = beast.on && beast.thirst < 100 && beast.hurt < 100;
            }
            if (hour % 10 == 9) {
                for (int i = 0; i < water.length; i++) {
                    if (rains()) {
                        water[i] = Math.min(99, water[i] + told.troughs.get(i).fill());
                    }
                }
            }
            hour++;
        }

        void pairs() {
            fightPlaces.clear();
            for (int i = 0; i < beasts.size(); i++) {
                for (int j = i + 1; j < beasts.size(); j++) {
                    Beast a = beasts.get(i);
                    Beast b = beasts.get(j);
                    Set<Integer> sides = new HashSet<>(List.of(told.horses.get(i).side(), told.horses.get(j).side()));
                    if (!a.on || !b.on || a.place != b.place || sides.size() == 1) {
                        continue;
                    }
                    if (a.drank + b.drank > 0) {
                        talks++;
                        talked.add(sides);
                    } else {
                        fights++;
                        fought.add(sides);
                        fightPlaces.add(a.place);
                        a.hurt = Math.min(9999, a.hurt + amount("fight", i, 1));
                        b.hurt = Math.min(9999, b.hurt + amount("fight", j, 1));
                    }
                }
            }
        }

        boolean rains() {
            if (noRain || told.rain == 0 || told.rain == 100 || !byChance) {
                return !noRain && (byChance ? told.rain == 100 : told.rain >= 50);
            }
            number = (number * 1103515245L + 12345L) % (1L << 31);
            return number / 65536 % 100 < told.rain;
        }

        State hours(int n) {
            for (int i = 0; i < n; i++) {
                hour();
            }
            return this;
        }

        int manyOn() {
            return (int) beasts.stream().filter(beast -> beast.on).count();
        }
    }

    private static BigInteger truth(boolean b) {
        return b ? BigInteger.ONE : BigInteger.ZERO;
    }

    // ---- the text

    private final class Reader {
        private final List<Token> tokens = new ArrayList<>();
        private final Told told = new Told();
        private int at = 0;
        private int open = 0;

        Reader(String text) {
            Matcher matcher = Pattern.compile("[a-z]+|[0-9]+|<=|<>|>=|[;()<=>+*/-]|[^ \n]").matcher(text);
            while (matcher.find()) {
                tokens.add(new Token(matcher.group(), matcher.start()));
            }
            tokens.add(new Token("", text.length()));
        }

        String see() {
            return tokens.get(at).text();
        }

        Fault fault(int kind) {
            return new Fault(kind, tokens.get(at).place());
        }

        boolean skip(String text) {
            if (see().equals(text)) {
                at++;
                return true;
            }
            return false;
        }

        void want(boolean so, int kind) throws Fault {
            if (!so) {
                throw fault(kind);
            }
        }

        Told read() throws Fault {
            while (!see().isEmpty()) {
                line();
                want(see().equals(";"), 1);
                at++;
                told.lines++;
            }
            return told;
        }

        void line() throws Fault {
            String word = see();
            switch (word) {
                case "road" -> {
                    want(told.lines == 0, 1);
                    at++;
                    told.length = number(2, 60);
                }
                case "trough" -> {
                    want(told.troughs.size() < 6, 2);
                    at++;
                    String name = newName(told.troughs.stream().map(Trough::name).toList());
                    int before = at;
                    int place = number(0, told.length);
                    int after = at;
                    at = before;
                    want(told.troughs.stream().noneMatch(trough -> trough.place() == place), 3);
                    at = after;
                    told.troughs.add(new Trough(name, place, number(0, 99), number(0, 9)));
                }
                case "horse" -> {
                    want(told.horses.size() < 6, 2);
                    at++;
                    String name = newName(told.horses.stream().map(Horse::name).toList());
                    told.horses.add(new Horse(name, number(0, 3), number(0, told.length), number(0, 99), number(1, 9)));
                }
                case "lap" -> {
                    want(told.laps.size() < 12, 2);
                    at++;
                    int horse = oldName(told.horses.stream().map(Horse::name).toList());
                    int trough = oldName(told.troughs.stream().map(Trough::name).toList());
                    told.laps.add(new Lap(horse, trough, number(0, 99)));
                }
                case "rain" -> {
                    want(!told.rainTold, 3);
                    told.rainTold = true;
                    at++;
                    told.rain = number(0, 100);
                }
                case "seed" -> {
                    want(!told.seedTold, 3);
                    told.seedTold = true;
                    at++;
                    told.seed = number(0, 99999);
                }
                case "law" -> {
                    at++;
                    String law = see();
                    want(LAWS.contains(law), 1);
                    want(!told.laws.containsKey(law), 3);
                    at++;
                    told.laws.put(law, either());
                }
                default -> throw fault(1);
            }
        }

        int number(int least, int most) throws Fault {
            want(!see().isEmpty() && Character.isDigit(see().charAt(0)), 1);
            BigInteger number = new BigInteger(see());
            want(number.compareTo(BigInteger.valueOf(least)) >= 0 && number.compareTo(BigInteger.valueOf(most)) <= 0, 2);
            at++;
            return number.intValue();
        }

        String newName(List<String> names) throws Fault {
            want(see().matches("[a-z]{1,6}") && !WORDS.contains(see()), 1);
            want(!names.contains(see()), 3);
            return tokens.get(at++).text();
        }

        int oldName(List<String> names) throws Fault {
            want(see().matches("[a-z]{1,6}") && !WORDS.contains(see()), 1);
            want(names.contains(see()), 4);
            return names.indexOf(tokens.get(at++).text());
        }

        String knot() throws Fault {
            want(told.knots < 64, 2);
            told.knots++;
            return tokens.get(at++).text();
        }

        Knot either() throws Fault {
            Knot left = both();
            while (see().equals("or")) {
                left = new Knot(knot(), left, both());
            }
            return left;
        }

        Knot both() throws Fault {
            Knot left = negated();
            while (see().equals("and")) {
                left = new Knot(knot(), left, negated());
            }
            return left;
        }

        Knot negated() throws Fault {
            return see().equals("not") ? new Knot(knot(), negated(), null) : compared();
        }

        Knot compared() throws Fault {
            Knot left = sum();
            return Set.of("<", "<=", "=", "<>", ">=", ">").contains(see()) ? new Knot(knot(), left, sum()) : left;
        }

        Knot sum() throws Fault {
            Knot left = product();
            while (see().equals("+") || see().equals("-")) {
                left = new Knot(knot(), left, product());
            }
            return left;
        }

        Knot product() throws Fault {
            Knot left = part();
            while (see().equals("*") || see().equals("/")) {
                left = new Knot(knot(), left, part());
            }
            return left;
        }

        Knot part() throws Fault {
            if (see().equals("(")) {
                want(open < 8, 2);
                open++;
                at++;
                Knot inner = either();
                want(see().equals(")"), 1);
                open--;
                at++;
                return inner;
            }
            if (NAMES.contains(see())) {
                return new Knot(knot(), null, null);
            }
            int before = at;
            number(0, 9999);
            at = before;
            return new Knot(knot(), null, null);
        }
    }

    // ---- the face

    private final List<Byte> tape = new ArrayList<>();
    private Told told = new Told();
    private int faultKind = 0;
    private int faultPlace = -1;
    private State now = new State();
    private State image = null;
    private final List<State> undo = new ArrayList<>();
    private final List<Sight> seen = new ArrayList<>();
    private int known = -1;

    int feed(int a, int b, int c, int d, int e) {
        if (tape.size() > 680) {
            return -1;
        }
        for (int number : new int[] {a, b, c, d, e}) {
            for (byte one : BigInteger.valueOf(number & 0xffffffffL | 1L << 32).toByteArray()) {
                tape.add(one);
            }
            tape.remove(tape.size() - 5);
        }
        return tape.size();
    }

    int text(int n) {
        if (n < 0 || n > tape.size()) {
            return -2;
        }
        StringBuilder text = new StringBuilder();
        for (int i = 0; i < n; i++) {
            text.append((char) (tape.get(i) & 255));
        }
        tape.clear();
        try {
            told = new Reader(text.toString()).read();
        } catch (Fault fault) {
            faultKind = fault.kind;
            faultPlace = fault.place;
            return -1;
        }
        faultKind = 0;
        faultPlace = -1;
        now = new State();
        image = null;
        undo.clear();
        seen.clear();
        known = -1;
        return told.lines;
    }

    int fault(int what) {
        return what == 0 ? faultKind : what == 1 ? faultPlace : -1;
    }

    int named(int what, int letters) {
        List<String> names = what == 0 ? told.troughs.stream().map(Trough::name).toList()
                : what == 1 ? told.horses.stream().map(Horse::name).toList() : List.of();
        for (int i = 0; i < names.size(); i++) {
            if (Check.letters(names.get(i)) == letters) {
                return i;
            }
        }
        return -1;
    }

    private boolean noHorse(int i) {
        return i < 0 || i >= told.horses.size();
    }

    private boolean noTrough(int i) {
        return i < 0 || i >= told.troughs.size();
    }

    int horse(int i, int what) {
        if (noHorse(i)) {
            throw new IndexOutOfBoundsException();
        }
        Beast beast = now.beasts.get(i);
        return switch (what) {
            case 0 -> told.horses.get(i).side();
            case 1 -> beast.place;
            case 2 -> beast.thirst;
            case 3 -> told.horses.get(i).pace();
            case 4 -> beast.goal;
            case 5 -> beast.hurt;
            case 6 -> beast.on ? 1 : 0;
            case 7 -> beast.drank;
            default -> throw new NoSuchElementException();
        };
    }

    private int bits(int many, IntPredicate which) {
        int bits = 0;
        for (int i = 0; i < many; i++) {
            bits += which.test(i) ? 1 << i : 0;
        }
        return bits;
    }

    int trough(int i, int what) {
        if (noTrough(i) || what < 0 || what > 3) {
            return -1;
        }
        Trough trough = told.troughs.get(i);
        return switch (what) {
            case 0 -> trough.place();
            case 1 -> now.water[i];
            case 2 -> trough.fill();
            default -> bits(told.horses.size(), h -> now.beasts.get(h).on && now.beasts.get(h).place == trough.place());
        };
    }

    long law(int what, int horse) {
        if (what < 0 || what > 2 || noHorse(horse) || !told.laws.containsKey(LAWS.get(what))) {
            return Long.MIN_VALUE;
        }
        BigInteger value = now.worth(told.laws.get(LAWS.get(what)), horse);
        return value == null ? Long.MIN_VALUE : value.longValueExact();
    }

    private void remember() {
        undo.add(now.copy());
        if (undo.size() > 20) {
            undo.remove(0);
        }
    }

    int send(int horse, int trough) {
        if (noHorse(horse) || noTrough(trough) || !now.beasts.get(horse).on) {
            return -1;
        }
        if (now.beasts.get(horse).goal == trough) {
            return -2;
        }
        remember();
        now.beasts.get(horse).goal = trough;
        return Math.abs(now.beasts.get(horse).place - told.troughs.get(trough).place());
    }

    int fill(int trough, int water) {
        if (noTrough(trough) || water < 1 || water > 99) {
            return -1;
        }
        remember();
        now.water[trough] = Math.min(99, now.water[trough] + water);
        return now.water[trough];
    }

    boolean lead(int horse, int place) {
        if (noHorse(horse) || place < 0 || place > told.length || !now.beasts.get(horse).on) {
            return false;
        }
        Beast beast = now.beasts.get(horse);
        if (beast.place == place && beast.goal == -2) {
            return false;
        }
        remember();
        beast = now.beasts.get(horse);
        beast.place = place;
        beast.goal = -2;
        return true;
    }

    int go(int n) {
        if (n < 0 || n > 200 || now.hour + n > 9000) {
            return -1;
        }
        if (n > 0) {
            undo.clear();
        }
        return now.hours(n).hour;
    }

    int ahead(int n, int what, int i) {
        if (n < 0 || n > 200 || what < 0 || what > 4 || what == 2 && noHorse(i) || what == 3 && noTrough(i)) {
            return -1;
        }
        State then = now.asItGoes().hours(n);
        return switch (what) {
            case 0 -> then.fights - now.fights;
            case 1 -> then.talks - now.talks;
            case 2 -> then.beasts.get(i).thirst;
            case 3 -> then.water[i];
            default -> then.manyOn();
        };
    }

    int falls(int horse) {
        if (noHorse(horse)) {
            return -1;
        }
        for (int n = 0; n <= 199; n++) {
            if (!now.asItGoes().hours(n).beasts.get(horse).on) {
                return n;
            }
        }
        return -2;
    }

    int nextFight(int what) {
        if (what < 0 || what > 1) {
            return -1;
        }
        State then = now.asItGoes();
        for (int n = 1; n <= 199; n++) {
            then.hour();
            if (!then.fightPlaces.isEmpty()) {
                return what == 0 ? n : then.fightPlaces.get(0);
            }
        }
        return -2;
    }

    int sendIn(int horse, int trough, int what) {
        if (noHorse(horse) || noTrough(trough) || what < 0 || what > 1) {
            return -1;
        }
        if (!now.beasts.get(horse).on) {
            return -2;
        }
        int best = -1;
        int fewest = Integer.MAX_VALUE;
        for (int n = 0; n <= 20; n++) {
            State then = now.asItGoes().hours(n);
            then.beasts.get(horse).goal = trough;
            int fights = then.hours(40 - n).fights - now.fights;
            if (fights < fewest) {
                best = n;
                fewest = fights;
            }
        }
        return what == 0 ? best : fewest;
    }

    /** The set of fewest, of several the least, or -2. */
    private int fewest(IntPredicate fits) {
        int best = -2;
        for (int set = 0; set < 1 << told.troughs.size(); set++) {
            if (fits.test(set) && (best < 0 || Integer.bitCount(set) < Integer.bitCount(best))) {
                best = set;
            }
        }
        return best;
    }

    int pump(int n) {
        if (n < 1 || n > 60) {
            return -1;
        }
        return fewest(set -> {
            State then = now.asItGoes();
            for (int i = 0; i < then.water.length; i++) {
                then.water[i] = (set >> i & 1) == 1 ? 99 : then.water[i];
            }
            return then.hours(n).manyOn() == now.manyOn();
        });
    }

    private int leg(int horse, int from, int to) {
        return (int) Math.ceil(Math.abs(from - to) / (double) told.horses.get(horse).pace());
    }

    int stops(int horse, int trough) {
        if (noHorse(horse) || noTrough(trough)) {
            return -1;
        }
        Beast beast = now.beasts.get(horse);
        int goal = told.troughs.get(trough).place();
        if (!beast.on) {
            return -2;
        }
        if (beast.place == goal) {
            return 0;
        }
        Set<List<Integer>> all = new HashSet<>();
        List<List<Integer>> round = List.of(List.of(beast.place, beast.thirst));
        for (int legs = 1; !round.isEmpty(); legs++) {
            List<List<Integer>> next = new ArrayList<>();
            for (List<Integer> stand : round) {
                for (int i = 0; i < told.troughs.size(); i++) {
                    int place = told.troughs.get(i).place();
                    int thirst = stand.get(1) + leg(horse, stand.get(0), place);
                    if (thirst < 100 && place == goal) {
                        return legs;
                    }
                    List<Integer> there = List.of(place, now.water[i] > 0 ? 0 : thirst);
                    if (thirst < 100 && all.add(there)) {
                        next.add(there);
                    }
                }
            }
            round = next;
        }
        return -2;
    }

    int reach(int horse) {
        if (noHorse(horse)) {
            return -1;
        }
        Beast beast = now.beasts.get(horse);
        return bits(told.troughs.size(),
                i -> beast.on && beast.thirst + leg(horse, beast.place, told.troughs.get(i).place()) < 100);
    }

    int cover(int n) {
        if (n < 1 || n > 60) {
            return -1;
        }
        return fewest(set -> {
            List<Integer> places = new ArrayList<>(List.of(0, told.length));
            for (int i = 0; i < told.troughs.size(); i++) {
                if ((set >> i & 1) == 1) {
                    places.add(told.troughs.get(i).place());
                }
            }
            places.sort(null);
            for (int i = 1; i < places.size(); i++) {
                if (places.get(i) - places.get(i - 1) > n) {
                    return false;
                }
            }
            return true;
        });
    }

    private int shortest(int from, List<Integer> left) {
        int best = left.isEmpty() ? 0 : Integer.MAX_VALUE;
        for (Integer next : left) {
            List<Integer> others = new ArrayList<>(left);
            others.remove(next);
            best = Math.min(best, Math.abs(from - next) + shortest(next, others));
        }
        return best;
    }

    int round(int horse) {
        return noHorse(horse) ? -1 : shortest(now.beasts.get(horse).place, told.troughs.stream().map(Trough::place).toList());
    }

    private int[] gains(int one, int other, int a, int b) {
        Horse h = told.horses.get(one);
        Horse k = told.horses.get(other);
        int both = 10 - Math.abs(h.side() - k.side());
        int[][] first = {{both, now.beasts.get(one).thirst / 5}, {h.pace(), h.pace() / 2}};
        int[][] second = {{both, k.pace()}, {now.beasts.get(other).thirst / 5, k.pace() / 2}};
        return new int[] {first[a][b], second[a][b]};
    }

    private List<Integer> allRests(int one, int other) {
        List<Integer> found = new ArrayList<>();
        for (int a = 0; a < 2; a++) {
            for (int b = 0; b < 2; b++) {
                int[] have = gains(one, other, a, b);
                if (have[0] >= gains(one, other, 1 - a, b)[0] && have[1] >= gains(one, other, a, 1 - b)[1]) {
                    found.add(10 * a + b);
                }
            }
        }
        return found;
    }

    int rests(int one, int other) {
        return noHorse(one) || noHorse(other) || one == other ? -1 : allRests(one, other).size();
    }

    int rest(int one, int other, int k) {
        if (rests(one, other) < 0 || k < 0) {
            return -1;
        }
        return k < rests(one, other) ? allRests(one, other).get(k) : -2;
    }

    long staysDry(int n, int what) {
        if (n < 0 || n > 6 || what < 0 || what > 1) {
            return -1;
        }
        BigInteger above = BigInteger.valueOf(100 - told.rain).pow(n);
        BigInteger below = BigInteger.valueOf(100).pow(n);
        return (what == 0 ? above : below).divide(above.gcd(below)).longValueExact();
    }

    int peace(int one, int other) {
        if (one < 0 || one > 3 || other < 0 || other > 3 || one == other) {
            return -1;
        }
        Set<Integer> sides = Set.of(one, other);
        return now.talked.contains(sides) && !now.fought.contains(sides) ? 1 : 0;
    }

    int thirstiest() {
        for (int thirst = 99; thirst >= 0; thirst--) {
            for (int i = 0; i < now.beasts.size(); i++) {
                if (now.beasts.get(i).on && now.beasts.get(i).thirst == thirst) {
                    return i;
                }
            }
        }
        return -2;
    }

    int driest() {
        for (int water = 0; water <= 99; water++) {
            for (int i = 0; i < now.water.length; i++) {
                if (now.water[i] == water) {
                    return i;
                }
            }
        }
        return -1;
    }

    int nearest(int horse) {
        for (int far = 0; far <= 60 && !noHorse(horse); far++) {
            for (int i = 0; i < now.water.length; i++) {
                if (Math.abs(told.troughs.get(i).place() - now.beasts.get(horse).place) == far) {
                    return i;
                }
            }
        }
        return noHorse(horse) ? -1 : -2;
    }

    int meet(int one, int other) {
        if (noHorse(one) || noHorse(other) || one == other) {
            return -1;
        }
        State then = now.asItGoes();
        for (int n = 1; n <= 199; n++) {
            then.hour();
            Beast a = then.beasts.get(one);
            Beast b = then.beasts.get(other);
            if (a.on && b.on && a.place == b.place) {
                return n;
            }
        }
        return -2;
    }

    int gather(int what) {
        if (what < 0 || what > 1) {
            return -1;
        }
        for (int hours = 0; hours <= 60 && now.manyOn() > 0; hours++) {
            for (int i = 0; i < now.water.length; i++) {
                boolean all = true;
                for (int h = 0; h < now.beasts.size(); h++) {
                    Beast beast = now.beasts.get(h);
                    all &= !beast.on || leg(h, beast.place, told.troughs.get(i).place()) <= hours;
                }
                if (all) {
                    return what == 0 ? i : hours;
                }
            }
        }
        return -2;
    }

    int sides() {
        return bits(4, side -> bits(told.horses.size(), h -> now.beasts.get(h).on && told.horses.get(h).side() == side) != 0);
    }

    int enemies(int horse) {
        if (noHorse(horse)) {
            return -1;
        }
        Beast beast = now.beasts.get(horse);
        return bits(told.horses.size(), h -> beast.on && now.beasts.get(h).on && now.beasts.get(h).place == beast.place
                && told.horses.get(h).side() != told.horses.get(horse).side());
    }

    int runsDry(int trough) {
        if (noTrough(trough)) {
            return -1;
        }
        State then = now.asItGoes();
        for (int n = 0; n <= 199; n++) {
            if (then.water[trough] == 0) {
                return n;
            }
            then.hour();
        }
        return -2;
    }

    int see(int hours, int trough, int water, boolean atLeast) {
        if (hours < 1 || hours > 60 || noTrough(trough) || water < 0 || water > 99 || seen.size() >= 24) {
            return -1;
        }
        seen.add(new Sight(hours, trough, water, atLeast, -1));
        return seen.size() - 1;
    }

    int strike(int number) {
        if (number < 0 || number >= seen.size() || seen.size() >= 24) {
            return -1;
        }
        seen.add(new Sight(0, 0, 0, false, number));
        return seen.size() - 1;
    }

    boolean known(int n) {
        if (n < -1 || n > seen.size()) {
            return false;
        }
        known = n;
        return true;
    }

    private boolean struck(int number, int n) {
        for (int i = number + 1; i < n; i++) {
            if (seen.get(i).strikes() == number && !struck(i, n)) {
                return true;
            }
        }
        return false;
    }

    int thirsts(int horse) {
        if (noHorse(horse)) {
            return -1;
        }
        int n = count(12);
        return bits(10, tens -> {
            for (int i = 0; i < n; i++) {
                Sight sight = seen.get(i);
                if (sight.strikes() < 0 && !struck(i, n)) {
                    State then = new State().asItGoes();
                    then.beasts.get(horse).thirst = tens * 10;
                    boolean enough = then.hours(sight.hours()).water[sight.trough()] >= sight.water();
                    if (enough != sight.atLeast()) {
                        return false;
                    }
                }
            }
            return true;
        });
    }

    int chance(int seed, int n, int trough, int water) {
        if (seed < 0 || n < 1 || n > 99 || noTrough(trough) || water < 0 || water > 99) {
            return -1;
        }
        long number = seed;
        int times = 0;
        for (int i = 0; i < 10; i++) {
            State then = now.copy();
            then.number = number;
            then.hours(n);
            number = then.number;
            times += then.water[trough] >= water ? 1 : 0;
        }
        return times;
    }

    int tried(int what, int i, int n) {
        if (n < 0 || n > 200 || what < 0 || what > 4 || (what == 2 ? noHorse(i) : i != 0)) {
            return -1;
        }
        State then = now.asItGoes();
        then.noRain = what == 0;
        then.noDrink = what == 1;
        then.pace = what == 4 ? 2 : 1;
        if (what == 2) {
            then.beasts.get(i).on = false;
        }
        if (what == 3) {
            Arrays.fill(then.water, 99);
        }
        return then.hours(n).fights - now.fights;
    }

    int undo() {
        if (undo.isEmpty()) {
            return -1;
        }
        now = undo.remove(undo.size() - 1);
        return undo.size();
    }

    int keep() {
        image = now.copy();
        return now.hour;
    }

    int back() {
        if (image == null) {
            return -1;
        }
        now = image.copy();
        undo.clear();
        return now.hour;
    }

    int count(int what) {
        return switch (what) {
            case 0 -> told.troughs.size();
            case 1 -> told.horses.size();
            case 2 -> told.laps.size();
            case 3 -> told.length;
            case 4 -> told.knots;
            case 5 -> now.hour;
            case 6 -> now.fights;
            case 7 -> now.talks;
            case 8 -> now.manyOn();
            case 9 -> Arrays.stream(now.water).sum();
            case 10 -> now.drunk;
            case 11 -> seen.size();
            case 12 -> known < 0 ? seen.size() : known;
            case 13 -> undo.size();
            default -> -1;
        };
    }
}
