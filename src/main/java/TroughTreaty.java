import java.util.Arrays;
import java.util.NoSuchElementException;

/**
 * A road with troughs and horses, told as a TEXT; the words written large are those of the
 * document. All rows are made with the object and used again: no call makes an object.
 */
public final class TroughTreaty {
    public static final int NONE = -1;

    /** The document's second answer for what cannot be told. */
    private static final int NO = -2;
    private static final int TAPE_MOST = 700;
    private static final int TROUGHS_MOST = 6;
    private static final int HORSES_MOST = 6;
    private static final int LAPS_MOST = 12;
    private static final int LENGTH_MOST = 60;
    private static final int KNOTS_MOST = 64;
    private static final int OPEN_MOST = 8;
    private static final int LAWS = 3;
    private static final int DRY_LAW = 0;
    private static final int GULP_LAW = 1;
    private static final int FIGHT_LAW = 2;
    private static final int WATER_MOST = 99;
    private static final int FULL_ODDS = 100;
    private static final int FALL_AT = 100;
    private static final int LOOK_MOST = 199;
    private static final int GO_MOST = 200;
    private static final int LAST_HOUR = 9000;
    private static final int SEND_MOST = 20;
    private static final int SEND_HOURS = 40;
    private static final int SEEN_MOST = 24;
    private static final int SEEN_HOURS = 60;
    private static final int UNDO_MOST = 20;
    private static final int SIDES_IN_ALL = 4;
    private static final long ERROR = Long.MIN_VALUE;
    private static final long VALUE_MOST = 1000000000000L;

    private static final int FINE = 0;
    private static final int WRONG_TOKEN = 1;
    private static final int TOO_MUCH = 2;
    private static final int TOLD_ALREADY = 3;
    private static final int NOT_TOLD = 4;

    private static final int END = 0;
    private static final int BAD = 1;
    private static final int NUMBER = 2;
    private static final int NAME = 3;
    /** The words of the language, six letters each; their tokens are numbered from FIRST_WORD on. */
    private static final String LANGUAGE =
            "road  troughhorse lap   rain  seed  law   dry   gulp  fight and   or    not   thirstpace  side  water far   hurt  hour  ";
    private static final int WORDS = 20;
    private static final int LETTERS = 6;
    private static final int FIRST_WORD = 10;
    private static final int ROAD = 10;
    private static final int TROUGH = 11;
    private static final int HORSE = 12;
    private static final int LAP = 13;
    private static final int RAIN = 14;
    private static final int SEED = 15;
    private static final int LAW = 16;
    private static final int DRY = 17;
    private static final int FIGHT = 19;
    private static final int AND = 20;
    private static final int OR = 21;
    private static final int NOT = 22;
    private static final int THIRST = 23;
    private static final int HOUR = 29;
    private static final int NAMES = 7;
    private static final int SEMICOLON = 30;
    private static final int OPEN = 31;
    private static final int CLOSE = 32;
    private static final int LESS = 33;
    private static final int LESS_EQUAL = 34;
    private static final int EQUAL = 35;
    private static final int UNLIKE = 36;
    private static final int MORE_EQUAL = 37;
    private static final int MORE = 38;
    private static final int PLUS = 39;
    private static final int MINUS = 40;
    private static final int TIMES = 41;
    private static final int BY = 42;

    private final byte[] tape = new byte[TAPE_MOST];
    private int tapeSize = 0;
    private final TextReader reader = new TextReader(tape);
    private final Plan plan = new Plan();
    private final World now = new World();
    private final World image = new World();
    private boolean imageKept = false;
    private final Deeds deeds = new Deeds();
    private final Seen seen = new Seen();
    private final Hours hours = new Hours(plan);
    private final Foresight foresight = new Foresight(plan, now, hours);
    private final Counsel counsel = new Counsel(plan, now);

    public TroughTreaty() {
        now.begin(plan);
    }

    public int feed(int a, int b, int c, int d, int e) {
        if (tapeSize + 20 > TAPE_MOST) {
            return NONE;
        }
        putFour(a);
        putFour(b);
        putFour(c);
        putFour(d);
        putFour(e);
        return tapeSize;
    }

    private void putFour(int number) {
        for (int shift = 24; shift >= 0 && tapeSize < TAPE_MOST; shift -= 8) {
            tape[tapeSize] = (byte) (number >> shift);
            tapeSize++;
        }
    }

    public int text(int n) {
        if (n < 0 || n > tapeSize) {
            return NO;
        }
        tapeSize = 0;
        int lines = reader.readText(n);
        if (lines == NONE) {
            return NONE;
        }
        plan.become(reader.plan);
        now.begin(plan);
        imageKept = false;
        deeds.forget();
        seen.forget();
        return lines;
    }

    public int fault(int what) {
        if (what == 0) {
            return reader.fault;
        }
        return what == 1 ? reader.place : NONE;
    }

    public int named(int what, int letters) {
        if (what == 0) {
            return find(plan.troughName, plan.troughs, letters);
        }
        return what == 1 ? find(plan.horseName, plan.horses, letters) : NONE;
    }

    private static int find(int[] names, int many, int letters) {
        for (int i = 0; i < many && i < names.length; i++) {
            if (names[i] == letters) {
                return i;
            }
        }
        return NONE;
    }

    public int horse(int horse, int what) throws IndexOutOfBoundsException, NoSuchElementException {
        if (!plan.hasHorse(horse)) {
            throw new IndexOutOfBoundsException();
        }
        switch (what) {
            case 0: return plan.horseSide[horse];
            case 1: return now.place[horse];
            case 2: return now.thirst[horse];
            case 3: return plan.horsePace[horse];
            case 4: return now.goal[horse];
            case 5: return now.hurt[horse];
            case 6: return now.isOn(horse) ? 1 : 0;
            case 7: return now.drank[horse];
            default: throw new NoSuchElementException();
        }
    }

    public int trough(int trough, int what) {
        if (!plan.hasTrough(trough)) {
            return NONE;
        }
        switch (what) {
            case 0: return plan.troughPlace[trough];
            case 1: return now.water[trough];
            case 2: return plan.troughFill[trough];
            case 3: return horsesAt(plan.troughPlace[trough]);
            default: return NONE;
        }
    }

    private int horsesAt(int place) {
        int bits = 0;
        for (int horse = 0; horse < plan.horses; horse++) {
            if (now.isOn(horse) && now.place[horse] == place) {
                bits |= 1 << horse;
            }
        }
        return bits;
    }

    public long law(int what, int horse) {
        if (what < 0 || what >= LAWS || !plan.hasHorse(horse)) {
            return ERROR;
        }
        // What was tried otherwise may have left each PACE twice as much.
        hours.asItGoes();
        return hours.worth(now, what, horse);
    }

    public int send(int horse, int trough) {
        if (!plan.hasHorse(horse) || !plan.hasTrough(trough) || !now.isOn(horse)) {
            return NONE;
        }
        if (now.goal[horse] == trough) {
            return NO;
        }
        deeds.rememberHorse(horse, now);
        now.goal[horse] = trough;
        return Math.abs(plan.troughPlace[trough] - now.place[horse]);
    }

    public int fill(int trough, int water) {
        if (!plan.hasTrough(trough) || water < 1 || water > WATER_MOST) {
            return NONE;
        }
        deeds.rememberTrough(trough, now);
        now.water[trough] = Math.min(WATER_MOST, now.water[trough] + water);
        return now.water[trough];
    }

    public boolean lead(int horse, int place) {
        if (!plan.hasHorse(horse) || place < 0 || place > plan.length || !now.isOn(horse)) {
            return false;
        }
        if (now.place[horse] == place && now.goal[horse] == NO) {
            return false;
        }
        deeds.rememberHorse(horse, now);
        now.place[horse] = place;
        now.goal[horse] = NO;
        return true;
    }

    public int go(int n) {
        if (n < 0 || n > GO_MOST || now.hour + n > LAST_HOUR) {
            return NONE;
        }
        if (n > 0) {
            deeds.forget();
        }
        hours.byChance();
        hours.pass(now, n);
        return now.hour;
    }

    public int ahead(int n, int what, int i) {
        boolean asked = what == 0 || what == 1 || what == 4
                || what == 2 && plan.hasHorse(i) || what == 3 && plan.hasTrough(i);
        if (n < 0 || n > GO_MOST || !asked) {
            return NONE;
        }
        World then = foresight.behind(n);
        switch (what) {
            case 0: return then.fights - now.fights;
            case 1: return then.talks - now.talks;
            case 2: return then.thirst[i];
            case 3: return then.water[i];
            default: return Integer.bitCount(then.on);
        }
    }

    public int falls(int horse) {
        return plan.hasHorse(horse) ? foresight.hoursToFall(horse) : NONE;
    }

    public int nextFight(int what) {
        return what == 0 || what == 1 ? foresight.hoursToFight(what == 1) : NONE;
    }

    public int sendIn(int horse, int trough, int what) {
        if (!plan.hasHorse(horse) || !plan.hasTrough(trough) || what < 0 || what > 1) {
            return NONE;
        }
        if (!now.isOn(horse)) {
            return NO;
        }
        return foresight.bestSending(horse, trough, what == 1);
    }

    public int pump(int n) {
        if (n < 1 || n > 60) {
            return NONE;
        }
        for (int many = 0; many <= plan.troughs; many++) {
            for (int bits = 0; bits < 1 << plan.troughs; bits++) {
                if (Integer.bitCount(bits) == many && foresight.canHelp(bits) && foresight.noneFalls(bits, n)) {
                    return bits;
                }
            }
        }
        return NO;
    }

    public int stops(int horse, int trough) {
        if (!plan.hasHorse(horse) || !plan.hasTrough(trough)) {
            return NONE;
        }
        return now.isOn(horse) ? counsel.fewestLegs(horse, trough) : NO;
    }

    public int reach(int horse) {
        if (!plan.hasHorse(horse)) {
            return NONE;
        }
        return now.isOn(horse) ? counsel.withinOneLeg(horse) : 0;
    }

    public int cover(int n) {
        if (n < 1 || n > LENGTH_MOST) {
            return NONE;
        }
        for (int many = 0; many <= plan.troughs; many++) {
            for (int bits = 0; bits < 1 << plan.troughs; bits++) {
                if (Integer.bitCount(bits) == many && counsel.covers(bits, n)) {
                    return bits;
                }
            }
        }
        return NO;
    }

    public int round(int horse) {
        return plan.hasHorse(horse) ? counsel.wayByAll(now.place[horse]) : NONE;
    }

    public int rests(int one, int other) {
        return areTwo(one, other) ? counsel.manyRests(one, other) : NONE;
    }

    public int rest(int one, int other, int k) {
        return k >= 0 && areTwo(one, other) ? counsel.restNumbered(one, other, k) : NONE;
    }

    private boolean areTwo(int one, int other) {
        return plan.hasHorse(one) && plan.hasHorse(other) && one != other;
    }

    public long staysDry(int n, int what) {
        if (n < 0 || n > 6 || what < 0 || what > 1) {
            return NONE;
        }
        int dry = FULL_ODDS - plan.rain;
        int shared = greatestShared(FULL_ODDS, dry);
        if (shared == 0) {
            return NONE;
        }
        int part = (what == 0 ? dry : FULL_ODDS) / shared;
        long power = 1;
        for (int i = 0; i < n; i++) {
            power *= part;
        }
        return power;
    }

    private static int greatestShared(int one, int other) {
        int a = one;
        int b = other;
        for (int i = 0; i < 64 && b != 0; i++) {
            int left = a % b;
            a = b;
            b = left;
        }
        return a;
    }

    public int peace(int one, int other) {
        if (one < 0 || one >= SIDES_IN_ALL || other < 0 || other >= SIDES_IN_ALL || one == other) {
            return NONE;
        }
        int pair = World.pairOf(one, other);
        return (now.talked & pair) != 0 && (now.fought & pair) == 0 ? 1 : 0;
    }

    public int thirstiest() {
        int best = NO;
        int most = NONE;
        for (int horse = 0; horse < plan.horses; horse++) {
            if (now.isOn(horse) && now.thirst[horse] > most) {
                best = horse;
                most = now.thirst[horse];
            }
        }
        return best;
    }

    public int driest() {
        int best = NONE;
        int least = WATER_MOST + 1;
        for (int trough = 0; trough < plan.troughs; trough++) {
            if (now.water[trough] < least) {
                best = trough;
                least = now.water[trough];
            }
        }
        return best;
    }

    public int nearest(int horse) {
        if (!plan.hasHorse(horse)) {
            return NONE;
        }
        int best = NO;
        int least = LENGTH_MOST + 1;
        for (int trough = 0; trough < plan.troughs; trough++) {
            int far = Math.abs(plan.troughPlace[trough] - now.place[horse]);
            if (far < least) {
                best = trough;
                least = far;
            }
        }
        return best;
    }

    public int meet(int one, int other) {
        return areTwo(one, other) ? foresight.hoursToMeet(one, other) : NONE;
    }

    public int gather(int what) {
        if (what < 0 || what > 1) {
            return NONE;
        }
        return now.on == 0 ? NO : counsel.gathering(what == 1);
    }

    public int sides() {
        int bits = 0;
        for (int horse = 0; horse < plan.horses; horse++) {
            if (now.isOn(horse)) {
                bits |= 1 << plan.horseSide[horse];
            }
        }
        return bits;
    }

    public int enemies(int horse) {
        if (!plan.hasHorse(horse)) {
            return NONE;
        }
        int bits = 0;
        for (int other = 0; other < plan.horses; other++) {
            if (plan.areEnemies(now, horse, other)) {
                bits |= 1 << other;
            }
        }
        return bits;
    }

    public int runsDry(int trough) {
        return plan.hasTrough(trough) ? foresight.hoursToDry(trough) : NONE;
    }

    public int see(int hours, int trough, int water, boolean atLeast) {
        boolean can = hours >= 1 && hours <= SEEN_HOURS && plan.hasTrough(trough)
                && water >= 0 && water <= WATER_MOST;
        return can ? seen.addSight(hours, trough, water, atLeast) : NONE;
    }

    public int strike(int seen) {
        return this.seen.addStrike(seen);
    }

    public boolean known(int n) {
        return seen.knowBy(n);
    }

    public int thirsts(int horse) {
        if (!plan.hasHorse(horse)) {
            return NONE;
        }
        seen.markStruck();
        int bits = 0;
        for (int tens = 0; tens < 10; tens++) {
            if (foresight.agrees(seen, horse, tens * 10)) {
                bits |= 1 << tens;
            }
        }
        return bits;
    }

    public int chance(int seed, int n, int trough, int water) {
        boolean can = seed >= 0 && n >= 1 && n <= 99 && plan.hasTrough(trough)
                && water >= 0 && water <= WATER_MOST;
        return can ? foresight.timesOfTen(seed, n, trough, water) : NONE;
    }

    public int tried(int what, int i, int n) {
        boolean can = what == 2 ? plan.hasHorse(i) : what >= 0 && what <= 4 && i == 0;
        return can && n >= 0 && n <= GO_MOST ? foresight.fightsOtherwise(what, i, n) : NONE;
    }

    public int undo() {
        return deeds.undoLatest(now);
    }

    public int keep() {
        image.become(now);
        imageKept = true;
        return now.hour;
    }

    public int back() {
        if (!imageKept) {
            return NONE;
        }
        now.become(image);
        deeds.forget();
        return now.hour;
    }

    public int count(int what) {
        switch (what) {
            case 0: return plan.troughs;
            case 1: return plan.horses;
            case 2: return plan.laps;
            case 3: return plan.length;
            case 4: return plan.laws.knots;
            case 5: return now.hour;
            case 6: return now.fights;
            case 7: return now.talks;
            case 8: return Integer.bitCount(now.on);
            case 9: return waterInAll();
            case 10: return now.drunk;
            case 11: return seen.many;
            case 12: return seen.manyKnown();
            case 13: return deeds.many;
            default: return NONE;
        }
    }

    private int waterInAll() {
        int all = 0;
        for (int trough = 0; trough < plan.troughs; trough++) {
            all += now.water[trough];
        }
        return all;
    }

    /** What a TEXT tells. */
    private static final class Plan {
        int length;
        int rain;
        int seed;
        int troughs;
        int horses;
        int laps;
        final int[] troughName = new int[TROUGHS_MOST];
        final int[] troughPlace = new int[TROUGHS_MOST];
        final int[] troughWater = new int[TROUGHS_MOST];
        final int[] troughFill = new int[TROUGHS_MOST];
        final int[] troughAt = new int[LENGTH_MOST + 1];
        final int[] horseName = new int[HORSES_MOST];
        final int[] horseSide = new int[HORSES_MOST];
        final int[] horsePlace = new int[HORSES_MOST];
        final int[] horseThirst = new int[HORSES_MOST];
        final int[] horsePace = new int[HORSES_MOST];
        final int[] lapHorse = new int[LAPS_MOST];
        final int[] lapTrough = new int[LAPS_MOST];
        final int[] lapHour = new int[LAPS_MOST];
        final Laws laws = new Laws();

        Plan() {
            clear();
        }

        void clear() {
            length = 20;
            rain = 0;
            seed = 0;
            troughs = 0;
            horses = 0;
            laps = 0;
            Arrays.fill(troughAt, NONE);
            laws.clear();
        }

        void become(Plan other) {
            length = other.length;
            rain = other.rain;
            seed = other.seed;
            troughs = other.troughs;
            horses = other.horses;
            laps = other.laps;
            copy(other.troughName, troughName);
            copy(other.troughPlace, troughPlace);
            copy(other.troughWater, troughWater);
            copy(other.troughFill, troughFill);
            copy(other.troughAt, troughAt);
            copy(other.horseName, horseName);
            copy(other.horseSide, horseSide);
            copy(other.horsePlace, horsePlace);
            copy(other.horseThirst, horseThirst);
            copy(other.horsePace, horsePace);
            copy(other.lapHorse, lapHorse);
            copy(other.lapTrough, lapTrough);
            copy(other.lapHour, lapHour);
            laws.become(other.laws);
        }

        boolean hasHorse(int horse) {
            return horse >= 0 && horse < horses;
        }

        boolean hasTrough(int trough) {
            return trough >= 0 && trough < troughs;
        }

        /** The TROUGH at a PLACE, or NONE. */
        int troughThere(int place) {
            return place >= 0 && place < troughAt.length ? troughAt[place] : NONE;
        }

        boolean areEnemies(World world, int one, int other) {
            return world.place[one] == world.place[other] && horseSide[one] != horseSide[other]
                    && world.isOn(one) && world.isOn(other);
        }

        /** HOURS that a HORSE needs for so many places. */
        int hoursFor(int horse, int places) {
            int pace = Math.max(1, horsePace[horse]);
            return (places + pace - 1) / pace;
        }
    }

    private static void copy(int[] from, int[] to) {
        System.arraycopy(from, 0, to, 0, Math.min(from.length, to.length));
    }

    /**
     * The E of all laws, each one's KNOTS in the order in which they are worked out: both sides
     * ahead of their sign. A code from 0 on is a number; one below 0 is a token's, negated.
     */
    private static final class Laws {
        int knots;
        private int size;
        private final int[] codes = new int[KNOTS_MOST];
        private final int[] from = new int[LAWS];
        private final int[] to = new int[LAWS];
        private final long[] stack = new long[KNOTS_MOST];

        void clear() {
            knots = 0;
            size = 0;
            Arrays.fill(from, 0);
            Arrays.fill(to, 0);
        }

        void become(Laws other) {
            knots = other.knots;
            size = other.size;
            copy(other.codes, codes);
            copy(other.from, from);
            copy(other.to, to);
        }

        boolean isTold(int law) {
            return to[law] > from[law];
        }

        void startLaw(int law) {
            from[law] = size;
        }

        void endLaw(int law) {
            to[law] = size;
        }

        void append(int code) {
            if (size < codes.length) {
                codes[size] = code;
                size++;
            }
        }

        /** E of a law for these NAMES; ERROR if there is one or no such law. */
        long worthOf(int law, int[] names) {
            int top = 0;
            for (int i = from[law]; i < to[law]; i++) {
                int code = codes[i];
                int token = -code;
                if (code >= 0 || isName(token)) {
                    if (top >= stack.length) {
                        return ERROR;
                    }
                    stack[top] = code >= 0 ? code : names[token - THIRST];
                    top++;
                } else if (token == NOT) {
                    if (top < 1) {
                        return ERROR;
                    }
                    stack[top - 1] = stack[top - 1] == 0 ? 1 : 0;
                } else {
                    if (top < 2) {
                        return ERROR;
                    }
                    top--;
                    long joined = join(token, stack[top - 1], stack[top]);
                    if (joined == ERROR) {
                        return ERROR;
                    }
                    stack[top - 1] = joined;
                }
            }
            return top == 1 ? stack[0] : ERROR;
        }

        private static long join(int sign, long left, long right) {
            switch (sign) {
                case PLUS: return within(left + right);
                case MINUS: return within(left - right);
                case TIMES: return isTooBig(left, right) ? ERROR : left * right;
                case BY: return right == 0 ? ERROR : left / right;
                case LESS: return left < right ? 1 : 0;
                case LESS_EQUAL: return left <= right ? 1 : 0;
                case EQUAL: return left == right ? 1 : 0;
                case UNLIKE: return left != right ? 1 : 0;
                case MORE_EQUAL: return left >= right ? 1 : 0;
                case MORE: return left > right ? 1 : 0;
                case AND: return left != 0 && right != 0 ? 1 : 0;
                case OR: return left != 0 || right != 0 ? 1 : 0;
                default: return ERROR;
            }
        }

        /** Asked ahead of multiplying: two values at the limit would leave the longs. */
        private static boolean isTooBig(long left, long right) {
            long size = left < 0 ? -left : left;
            return size != 0 && (right < 0 ? -right : right) > VALUE_MOST / size;
        }

        private static long within(long value) {
            return value > VALUE_MOST || value < -VALUE_MOST ? ERROR : value;
        }
    }

    private static boolean isName(int token) {
        return token >= THIRST && token <= HOUR;
    }

    /** Goes along the tape token by token; the fields tell the token at which it stands. */
    private static final class Scanner {
        int kind;
        int place;
        int value;
        int letters;
        private final byte[] tape;
        private final int[] words = new int[WORDS];
        private int size;
        private int next;

        Scanner(byte[] tape) {
            this.tape = tape;
            for (int word = 0; word < WORDS; word++) {
                words[word] = packed(word);
            }
        }

        /** A word of the language in the form of letters: 5 bits each, blanks as 0. */
        private static int packed(int word) {
            int bits = 0;
            for (int i = word * LETTERS; i < (word + 1) * LETTERS && i < LANGUAGE.length(); i++) {
                char sign = LANGUAGE.charAt(i);
                bits = bits << 5 | (sign == ' ' ? 0 : sign - 'a' + 1);
            }
            return bits;
        }

        void begin(int size) {
            this.size = Math.min(size, tape.length);
            next = 0;
            step();
        }

        void step() {
            while (next < size && (tape[next] == 10 || tape[next] == 32)) {
                next++;
            }
            place = next;
            if (next >= size) {
                kind = END;
            } else if (isLetter(tape[next])) {
                readWord();
            } else if (isDigit(tape[next])) {
                readNumber();
            } else {
                readSign(tape[next]);
            }
        }

        private static boolean isLetter(int sign) {
            return sign >= 'a' && sign <= 'z';
        }

        private static boolean isDigit(int sign) {
            return sign >= '0' && sign <= '9';
        }

        private void readWord() {
            int bits = 0;
            while (next < size && isLetter(tape[next])) {
                if (next - place < LETTERS) {
                    bits = bits << 5 | tape[next] - 'a' + 1;
                }
                next++;
            }
            int many = next - place;
            if (many > LETTERS) {
                kind = BAD;
                return;
            }
            letters = bits << 5 * (LETTERS - many);
            int word = find(words, WORDS, letters);
            kind = word == NONE ? NAME : FIRST_WORD + word;
        }

        private void readNumber() {
            kind = NUMBER;
            value = 0;
            while (next < size && isDigit(tape[next])) {
                // No N of the document goes beyond it, and so it never leaves the ints.
                value = Math.min(1000000, value * 10 + tape[next] - '0');
                next++;
            }
        }

        private void readSign(int sign) {
            next++;
            int behind = next < size ? tape[next] : 0;
            switch (sign) {
                case ';': kind = SEMICOLON; break;
                case '(': kind = OPEN; break;
                case ')': kind = CLOSE; break;
                case '=': kind = EQUAL; break;
                case '+': kind = PLUS; break;
                case '-': kind = MINUS; break;
                case '*': kind = TIMES; break;
                case '/': kind = BY; break;
                case '<': kind = behind == '=' ? LESS_EQUAL : behind == '>' ? UNLIKE : LESS; break;
                case '>': kind = behind == '=' ? MORE_EQUAL : MORE; break;
                default: kind = BAD; break;
            }
            if (kind == LESS_EQUAL || kind == UNLIKE || kind == MORE_EQUAL) {
                next++;
            }
        }
    }

    /**
     * Reads a TEXT into a plan of its own, so that with a FAULT all stays. It goes from left to
     * right and stops at the first FAULT, which is always at the scanner's token.
     */
    private static final class TextReader {
        final Plan plan = new Plan();
        int fault = FINE;
        int place = NONE;
        private final Scanner scanner;
        private final LawReader lawReader;
        private boolean rainTold;
        private boolean seedTold;

        TextReader(byte[] tape) {
            scanner = new Scanner(tape);
            lawReader = new LawReader(scanner, plan.laws);
        }

        /** How many LINES, or NONE with a FAULT. */
        int readText(int n) {
            plan.clear();
            fault = FINE;
            place = NONE;
            rainTold = false;
            seedTold = false;
            scanner.begin(n);
            int lines = 0;
            while (lines < TAPE_MOST && scanner.kind != END) {
                if (!readLine(lines == 0)) {
                    place = scanner.place;
                    return NONE;
                }
                lines++;
            }
            return lines;
        }

        private boolean fail(int kind) {
            fault = kind;
            return false;
        }

        private boolean readLine(boolean first) {
            boolean read;
            switch (scanner.kind) {
                case ROAD: read = first ? readRoad() : fail(WRONG_TOKEN); break;
                case TROUGH: read = readTrough(); break;
                case HORSE: read = readHorse(); break;
                case LAP: read = readLap(); break;
                case RAIN: read = readRain(); break;
                case SEED: read = readSeed(); break;
                case LAW: read = readLaw(); break;
                default: read = fail(WRONG_TOKEN); break;
            }
            if (!read) {
                return false;
            }
            if (scanner.kind != SEMICOLON) {
                return fail(WRONG_TOKEN);
            }
            scanner.step();
            return true;
        }

        /** Whether a number of these bounds stands here. */
        private boolean isNumber(int least, int most) {
            if (scanner.kind != NUMBER) {
                return fail(WRONG_TOKEN);
            }
            return scanner.value >= least && scanner.value <= most || fail(TOO_MUCH);
        }

        /** The number that stands here, behind which the scanner goes; NONE with a FAULT. */
        private int takeNumber(int least, int most) {
            if (!isNumber(least, most)) {
                return NONE;
            }
            int number = scanner.value;
            scanner.step();
            return number;
        }

        /** Whether a name stands here that none of these has. */
        private boolean isNewName(int[] names, int many) {
            if (scanner.kind != NAME) {
                return fail(WRONG_TOKEN);
            }
            return find(names, many, scanner.letters) == NONE || fail(TOLD_ALREADY);
        }

        /** Who of these has the name that stands here; NONE with a FAULT. */
        private int takeNamed(int[] names, int many) {
            if (scanner.kind != NAME) {
                fail(WRONG_TOKEN);
                return NONE;
            }
            int number = find(names, many, scanner.letters);
            if (number == NONE) {
                fail(NOT_TOLD);
            } else {
                scanner.step();
            }
            return number;
        }

        private boolean readRoad() {
            scanner.step();
            int length = takeNumber(2, LENGTH_MOST);
            if (length == NONE) {
                return false;
            }
            plan.length = length;
            return true;
        }

        private boolean readTrough() {
            int trough = plan.troughs;
            if (trough >= TROUGHS_MOST) {
                return fail(TOO_MUCH);
            }
            scanner.step();
            if (!isNewName(plan.troughName, trough)) {
                return false;
            }
            plan.troughName[trough] = scanner.letters;
            scanner.step();
            if (!isNumber(0, plan.length)) {
                return false;
            }
            if (plan.troughThere(scanner.value) != NONE) {
                return fail(TOLD_ALREADY);
            }
            int at = takeNumber(0, plan.length);
            int water = at == NONE ? NONE : takeNumber(0, WATER_MOST);
            int fills = water == NONE ? NONE : takeNumber(0, 9);
            if (fills == NONE || at >= plan.troughAt.length) {
                return false;
            }
            plan.troughPlace[trough] = at;
            plan.troughWater[trough] = water;
            plan.troughFill[trough] = fills;
            plan.troughAt[at] = trough;
            plan.troughs++;
            return true;
        }

        private boolean readHorse() {
            int horse = plan.horses;
            if (horse >= HORSES_MOST) {
                return fail(TOO_MUCH);
            }
            scanner.step();
            if (!isNewName(plan.horseName, horse)) {
                return false;
            }
            plan.horseName[horse] = scanner.letters;
            scanner.step();
            int side = takeNumber(0, SIDES_IN_ALL - 1);
            int at = side == NONE ? NONE : takeNumber(0, plan.length);
            int thirst = at == NONE ? NONE : takeNumber(0, 99);
            int pace = thirst == NONE ? NONE : takeNumber(1, 9);
            if (pace == NONE) {
                return false;
            }
            plan.horseSide[horse] = side;
            plan.horsePlace[horse] = at;
            plan.horseThirst[horse] = thirst;
            plan.horsePace[horse] = pace;
            plan.horses++;
            return true;
        }

        private boolean readLap() {
            int lap = plan.laps;
            if (lap >= LAPS_MOST) {
                return fail(TOO_MUCH);
            }
            scanner.step();
            int horse = takeNamed(plan.horseName, plan.horses);
            int trough = horse == NONE ? NONE : takeNamed(plan.troughName, plan.troughs);
            int hour = trough == NONE ? NONE : takeNumber(0, 99);
            if (hour == NONE) {
                return false;
            }
            plan.lapHorse[lap] = horse;
            plan.lapTrough[lap] = trough;
            plan.lapHour[lap] = hour;
            plan.laps++;
            return true;
        }

        private boolean readRain() {
            if (rainTold) {
                return fail(TOLD_ALREADY);
            }
            rainTold = true;
            scanner.step();
            int rain = takeNumber(0, FULL_ODDS);
            if (rain == NONE) {
                return false;
            }
            plan.rain = rain;
            return true;
        }

        private boolean readSeed() {
            if (seedTold) {
                return fail(TOLD_ALREADY);
            }
            seedTold = true;
            scanner.step();
            int seed = takeNumber(0, 99999);
            if (seed == NONE) {
                return false;
            }
            plan.seed = seed;
            return true;
        }

        private boolean readLaw() {
            scanner.step();
            if (scanner.kind < DRY || scanner.kind > FIGHT) {
                return fail(WRONG_TOKEN);
            }
            int law = scanner.kind - DRY;
            if (plan.laws.isTold(law)) {
                return fail(TOLD_ALREADY);
            }
            scanner.step();
            int kind = lawReader.readE(law);
            return kind == FINE || fail(kind);
        }
    }

    /**
     * Reads an E by the strength of its signs: a sign waits until a weaker one, or the end of
     * what it stands in, shows that its right side is whole. So no method calls itself.
     */
    private static final class LawReader {
        private final Scanner scanner;
        private final Laws laws;
        private final int[] waiting = new int[KNOTS_MOST + OPEN_MOST];
        private int waits;
        private int open;
        private boolean partDue;

        LawReader(Scanner scanner, Laws laws) {
            this.scanner = scanner;
            this.laws = laws;
        }

        /** Goes up to the ';' behind an E: FINE, or the FAULT at the scanner's token. */
        int readE(int law) {
            waits = 0;
            open = 0;
            partDue = true;
            laws.startLaw(law);
            for (int i = 0; i <= TAPE_MOST; i++) {
                if (!partDue && open == 0 && scanner.kind == SEMICOLON) {
                    settle(1);
                    laws.endLaw(law);
                    return FINE;
                }
                int fault = partDue ? takePart() : takeSign();
                if (fault != FINE) {
                    return fault;
                }
                scanner.step();
            }
            return WRONG_TOKEN;
        }

        private int takePart() {
            int kind = scanner.kind;
            if (kind == NUMBER) {
                partDue = false;
                return scanner.value > 9999 ? TOO_MUCH : takeKnot(scanner.value);
            }
            if (isName(kind)) {
                partDue = false;
                return takeKnot(-kind);
            }
            if (kind == NOT && topStrength() <= strengthOf(NOT)) {
                return waitKnot(NOT);
            }
            if (kind != OPEN) {
                return WRONG_TOKEN;
            }
            if (open >= OPEN_MOST) {
                return TOO_MUCH;
            }
            open++;
            return push(OPEN);
        }

        private int takeSign() {
            int kind = scanner.kind;
            if (kind == CLOSE && open > 0) {
                settle(1);
                waits = Math.max(0, waits - 1);
                open--;
                return FINE;
            }
            int strength = strengthOf(kind);
            if (strength == 0 || kind == NOT) {
                return WRONG_TOKEN;
            }
            settle(strength + 1);
            boolean compares = kind >= LESS && kind <= MORE;
            if (compares && topStrength() == strength) {
                return WRONG_TOKEN;
            }
            settle(strength);
            partDue = true;
            return waitKnot(kind);
        }

        private int takeKnot(int code) {
            if (laws.knots >= KNOTS_MOST) {
                return TOO_MUCH;
            }
            laws.knots++;
            laws.append(code);
            return FINE;
        }

        private int waitKnot(int sign) {
            if (laws.knots >= KNOTS_MOST) {
                return TOO_MUCH;
            }
            laws.knots++;
            return push(sign);
        }

        private int push(int sign) {
            if (waits >= waiting.length) {
                return TOO_MUCH;
            }
            waiting[waits] = sign;
            waits++;
            return FINE;
        }

        /** Signs of at least such strength wait no longer, the latest first; '(' has none. */
        private void settle(int strength) {
            while (waits > 0 && strengthOf(waiting[waits - 1]) >= strength) {
                waits--;
                laws.append(-waiting[waits]);
            }
        }

        private int topStrength() {
            return waits > 0 ? strengthOf(waiting[waits - 1]) : 0;
        }

        private static int strengthOf(int sign) {
            switch (sign) {
                case OR: return 1;
                case AND: return 2;
                case NOT: return 3;
                case LESS: case LESS_EQUAL: case EQUAL: case UNLIKE: case MORE_EQUAL: case MORE: return 4;
                case PLUS: case MINUS: return 5;
                case TIMES: case BY: return 6;
                default: return 0;
            }
        }
    }

    /** How all stands at an HOUR; horses that are ON are bits, as are pairs of SIDES. */
    private static final class World {
        int hour;
        long number;
        int on;
        int fights;
        int talks;
        int drunk;
        int talked;
        int fought;
        /** Where the first FIGHT of the last HOUR was, or NONE. */
        int fightPlace;
        final int[] place = new int[HORSES_MOST];
        final int[] thirst = new int[HORSES_MOST];
        final int[] hurt = new int[HORSES_MOST];
        final int[] goal = new int[HORSES_MOST];
        final int[] drank = new int[HORSES_MOST];
        final int[] water = new int[TROUGHS_MOST];

        void begin(Plan plan) {
            hour = 0;
            number = plan.seed;
            on = (1 << plan.horses) - 1;
            fights = 0;
            talks = 0;
            drunk = 0;
            talked = 0;
            fought = 0;
            fightPlace = NONE;
            copy(plan.horsePlace, place);
            copy(plan.horseThirst, thirst);
            Arrays.fill(hurt, 0);
            Arrays.fill(goal, NO);
            Arrays.fill(drank, 0);
            copy(plan.troughWater, water);
        }

        void become(World other) {
            hour = other.hour;
            number = other.number;
            on = other.on;
            fights = other.fights;
            talks = other.talks;
            drunk = other.drunk;
            talked = other.talked;
            fought = other.fought;
            fightPlace = other.fightPlace;
            copy(other.place, place);
            copy(other.thirst, thirst);
            copy(other.hurt, hurt);
            copy(other.goal, goal);
            copy(other.drank, drank);
            copy(other.water, water);
        }

        boolean isOn(int horse) {
            return (on & 1 << horse) != 0;
        }

        void noteTalk(int pair) {
            talks++;
            talked |= pair;
        }

        void noteFight(int pair, int where) {
            if (fightPlace == NONE) {
                fightPlace = where;
            }
            fights++;
            fought |= pair;
        }

        void injure(int horse, int more) {
            hurt[horse] = Math.min(9999, hurt[horse] + more);
        }

        /** The next of the numbers by chance. */
        int drawNumber() {
            number = number * 1103515245L + 12345L & 0x7fffffffL;
            return (int) (number / 65536);
        }

        static int pairOf(int one, int other) {
            return 1 << SIDES_IN_ALL * Math.min(one, other) + Math.max(one, other);
        }
    }

    /** Lets HOURS go by in a world: by chance, as it goes, or otherwise. */
    private static final class Hours {
        private final Plan plan;
        private final int[] names = new int[NAMES];
        private int odds;
        private boolean drinking;
        private int paceTimes;

        Hours(Plan plan) {
            this.plan = plan;
            byChance();
        }

        void byChance() {
            odds = plan.rain;
            drinking = true;
            paceTimes = 1;
        }

        void asItGoes() {
            odds = plan.rain >= 50 ? FULL_ODDS : 0;
            drinking = true;
            paceTimes = 1;
        }

        void withoutRain() {
            odds = 0;
        }

        void withoutDrinking() {
            drinking = false;
        }

        void withTwicePace() {
            paceTimes = 2;
        }

        void pass(World world, int many) {
            for (int i = 0; i < many; i++) {
                startLaps(world);
                walk(world);
                drink(world);
                encounter(world);
                fall(world);
                if (world.hour % 10 == 9) {
                    rain(world);
                }
                world.hour++;
            }
        }

        private void startLaps(World world) {
            for (int lap = 0; lap < plan.laps; lap++) {
                if (plan.lapHour[lap] == world.hour) {
                    world.goal[plan.lapHorse[lap]] = plan.lapTrough[lap];
                }
            }
        }

        private void walk(World world) {
            for (int horse = 0; horse < plan.horses; horse++) {
                if (world.isOn(horse)) {
                    int goal = world.goal[horse];
                    if (plan.hasTrough(goal)) {
                        int way = plan.troughPlace[goal] - world.place[horse];
                        int pace = plan.horsePace[horse] * paceTimes;
                        world.place[horse] += Math.max(-pace, Math.min(pace, way));
                    }
                    world.thirst[horse] += amount(world, DRY_LAW, horse, 1);
                }
            }
        }

        private void drink(World world) {
            Arrays.fill(world.drank, 0);
            for (int horse = 0; horse < plan.horses && drinking; horse++) {
                int trough = plan.troughThere(world.place[horse]);
                if (world.isOn(horse) && trough != NONE && world.thirst[horse] > 0 && world.water[trough] > 0) {
                    int most = Math.min(world.thirst[horse], world.water[trough]);
                    int gulp = Math.min(most, amount(world, GULP_LAW, horse, 9));
                    world.thirst[horse] -= gulp;
                    world.water[trough] -= gulp;
                    world.drank[horse] = gulp;
                    world.drunk += gulp;
                }
            }
        }

        private void encounter(World world) {
            world.fightPlace = NONE;
            for (int one = 0; one < plan.horses; one++) {
                for (int other = one + 1; other < plan.horses; other++) {
                    if (!plan.areEnemies(world, one, other)) {
                        continue;
                    }
                    int pair = World.pairOf(plan.horseSide[one], plan.horseSide[other]);
                    if (world.drank[one] > 0 || world.drank[other] > 0) {
                        world.noteTalk(pair);
                    } else {
                        world.noteFight(pair, world.place[one]);
                        world.injure(one, amount(world, FIGHT_LAW, one, 1));
                        world.injure(other, amount(world, FIGHT_LAW, other, 1));
                    }
                }
            }
        }

        private void fall(World world) {
            for (int horse = 0; horse < plan.horses; horse++) {
                if (world.thirst[horse] >= FALL_AT || world.hurt[horse] >= FALL_AT) {
                    world.on &= ~(1 << horse);
                }
            }
        }

        private void rain(World world) {
            for (int trough = 0; trough < plan.troughs && odds > 0; trough++) {
                if (odds >= FULL_ODDS || world.drawNumber() % 100 < odds) {
                    world.water[trough] = Math.min(WATER_MOST, world.water[trough] + plan.troughFill[trough]);
                }
            }
        }

        /** E of a law of a HORSE, 0 .. 99; another amount without the law or with an ERROR. */
        private int amount(World world, int law, int horse, int otherwise) {
            if (!plan.laws.isTold(law)) {
                return otherwise;
            }
            setNames(world, horse);
            long worth = plan.laws.worthOf(law, names);
            return worth == ERROR ? otherwise : (int) Math.max(0, Math.min(99, worth));
        }

        /** E of a law of a HORSE; ERROR if there is one or no such law. */
        long worth(World world, int law, int horse) {
            setNames(world, horse);
            return plan.laws.worthOf(law, names);
        }

        private void setNames(World world, int horse) {
            int trough = plan.troughThere(world.place[horse]);
            int goal = world.goal[horse];
            names[0] = world.thirst[horse];
            names[1] = plan.horsePace[horse] * paceTimes;
            names[2] = plan.horseSide[horse];
            names[3] = trough == NONE ? 0 : world.water[trough];
            names[4] = plan.hasTrough(goal) ? Math.abs(plan.troughPlace[goal] - world.place[horse]) : 0;
            names[5] = world.hurt[horse];
            names[6] = world.hour;
        }
    }

    /** What comes: it lets HOURS go by in worlds of its own and leaves the real one alone. */
    private static final class Foresight {
        private final Plan plan;
        private final World now;
        private final Hours hours;
        private final World trial = new World();
        private final World start = new World();
        /** For each set of TROUGHS filled, those at which a HORSE was. */
        private final int[] visited = new int[1 << TROUGHS_MOST];

        Foresight(Plan plan, World now, Hours hours) {
            this.plan = plan;
            this.now = now;
            this.hours = hours;
        }

        private void beginTrial() {
            trial.become(now);
            hours.asItGoes();
        }

        World behind(int n) {
            beginTrial();
            hours.pass(trial, n);
            return trial;
        }

        int hoursToFall(int horse) {
            beginTrial();
            for (int hour = 0; hour <= LOOK_MOST; hour++) {
                if (!trial.isOn(horse)) {
                    return hour;
                }
                hours.pass(trial, 1);
            }
            return NO;
        }

        int hoursToFight(boolean tellPlace) {
            beginTrial();
            for (int hour = 1; hour <= LOOK_MOST; hour++) {
                hours.pass(trial, 1);
                if (trial.fightPlace != NONE) {
                    return tellPlace ? trial.fightPlace : hour;
                }
            }
            return NO;
        }

        int hoursToMeet(int one, int other) {
            beginTrial();
            for (int hour = 1; hour <= LOOK_MOST && trial.isOn(one) && trial.isOn(other); hour++) {
                hours.pass(trial, 1);
                if (trial.place[one] == trial.place[other] && trial.isOn(one) && trial.isOn(other)) {
                    return hour;
                }
            }
            return NO;
        }

        int hoursToDry(int trough) {
            beginTrial();
            for (int hour = 0; hour <= LOOK_MOST; hour++) {
                if (trial.water[trough] == 0) {
                    return hour;
                }
                hours.pass(trial, 1);
            }
            return NO;
        }

        /** The world of the HOUR of sending goes on by itself, so that each trial starts there. */
        int bestSending(int horse, int trough, boolean tellFights) {
            hours.asItGoes();
            start.become(now);
            int best = NO;
            int fewest = Integer.MAX_VALUE;
            for (int wait = 0; wait <= SEND_MOST; wait++) {
                trial.become(start);
                trial.goal[horse] = trough;
                hours.pass(trial, SEND_HOURS - wait);
                if (trial.fights - now.fights < fewest) {
                    fewest = trial.fights - now.fights;
                    best = wait;
                }
                hours.pass(start, 1);
            }
            return tellFights ? fewest : best;
        }

        /**
         * Whether these TROUGHS filled may do what fewer didn't: all goes as without one of them,
         * if no HORSE came there before one fell. All sets of fewer have been tried ahead.
         */
        boolean canHelp(int filled) {
            for (int trough = 0; trough < plan.troughs; trough++) {
                int one = 1 << trough;
                if ((filled & one) != 0 && (visited[filled ^ one] & one) == 0) {
                    visited[filled] = visited[filled ^ one];
                    return false;
                }
            }
            return true;
        }

        boolean noneFalls(int filled, int n) {
            beginTrial();
            for (int trough = 0; trough < plan.troughs; trough++) {
                if ((filled & 1 << trough) != 0) {
                    trial.water[trough] = WATER_MOST;
                }
            }
            visited[filled] = 0;
            for (int hour = 0; hour < n && trial.on == now.on; hour++) {
                hours.pass(trial, 1);
                visited[filled] |= troughsOf(now.on);
            }
            return trial.on == now.on;
        }

        /** TROUGHS (bits) at which these HORSES are in the trial. */
        private int troughsOf(int horses) {
            int bits = 0;
            for (int horse = 0; horse < plan.horses; horse++) {
                int trough = plan.troughThere(trial.place[horse]);
                if ((horses & 1 << horse) != 0 && trough != NONE) {
                    bits |= 1 << trough;
                }
            }
            return bits;
        }

        int fightsOtherwise(int what, int horse, int n) {
            beginTrial();
            switch (what) {
                case 0: hours.withoutRain(); break;
                case 1: hours.withoutDrinking(); break;
                case 2: trial.on &= ~(1 << horse); break;
                case 3: Arrays.fill(trial.water, WATER_MOST); break;
                default: hours.withTwicePace(); break;
            }
            hours.pass(trial, n);
            return trial.fights - now.fights;
        }

        int timesOfTen(int seed, int n, int trough, int water) {
            hours.byChance();
            long number = seed;
            int times = 0;
            for (int i = 0; i < 10; i++) {
                trial.become(now);
                trial.number = number;
                hours.pass(trial, n);
                number = trial.number;
                times += trial.water[trough] >= water ? 1 : 0;
            }
            return times;
        }

        /** Whether all that is KNOWN is so, if this was the THIRST of a HORSE at first. */
        boolean agrees(Seen seen, int horse, int thirst) {
            hours.asItGoes();
            trial.begin(plan);
            trial.thirst[horse] = thirst;
            int last = seen.lastHour();
            for (int hour = 1; hour <= last && hour <= SEEN_HOURS; hour++) {
                hours.pass(trial, 1);
                if (!seen.fits(trial)) {
                    return false;
                }
            }
            return true;
        }
    }

    /** What can be told from how all stands now, without an HOUR going by. */
    private static final class Counsel {
        private final Plan plan;
        private final World now;
        private final int[] thirstAt = new int[TROUGHS_MOST];
        private final int[] thirstNext = new int[TROUGHS_MOST];

        Counsel(Plan plan, World now) {
            this.plan = plan;
            this.now = now;
        }

        /** THIRST behind a LEG, ahead of drinking. */
        private int thirstBehind(int horse, int thirst, int place, int trough) {
            return thirst + plan.hoursFor(horse, Math.abs(plan.troughPlace[trough] - place));
        }

        int withinOneLeg(int horse) {
            int bits = 0;
            for (int trough = 0; trough < plan.troughs; trough++) {
                if (thirstBehind(horse, now.thirst[horse], now.place[horse], trough) < FALL_AT) {
                    bits |= 1 << trough;
                }
            }
            return bits;
        }

        /** Less THIRST at a TROUGH is never worse, so the least by so many LEGS is all to keep. */
        int fewestLegs(int horse, int goal) {
            if (now.place[horse] == plan.troughPlace[goal]) {
                return 0;
            }
            Arrays.fill(thirstNext, FALL_AT);
            legsFrom(horse, now.thirst[horse], now.place[horse]);
            for (int legs = 1; legs <= TROUGHS_MOST; legs++) {
                if (thirstNext[goal] < FALL_AT) {
                    return legs;
                }
                copy(thirstNext, thirstAt);
                for (int trough = 0; trough < plan.troughs; trough++) {
                    if (thirstAt[trough] < FALL_AT) {
                        legsFrom(horse, thirstAt[trough], plan.troughPlace[trough]);
                    }
                }
            }
            return NO;
        }

        private void legsFrom(int horse, int thirst, int place) {
            for (int trough = 0; trough < plan.troughs; trough++) {
                int behind = thirstBehind(horse, thirst, place, trough);
                if (behind < FALL_AT) {
                    int left = now.water[trough] > 0 ? 0 : behind;
                    thirstNext[trough] = Math.min(thirstNext[trough], left);
                }
            }
        }

        boolean covers(int bits, int most) {
            int last = 0;
            for (int place = 0; place <= plan.length; place++) {
                int trough = plan.troughThere(place);
                if (place == plan.length || trough != NONE && (bits & 1 << trough) != 0) {
                    if (place - last > most) {
                        return false;
                    }
                    last = place;
                }
            }
            return true;
        }

        /** On a road: to the nearer end of what must be passed, then to the other one. */
        int wayByAll(int place) {
            int least = place;
            int most = place;
            for (int trough = 0; trough < plan.troughs; trough++) {
                least = Math.min(least, plan.troughPlace[trough]);
                most = Math.max(most, plan.troughPlace[trough]);
            }
            return most - least + Math.min(place - least, most - place);
        }

        int gathering(boolean tellHours) {
            int best = NO;
            int fewest = Integer.MAX_VALUE;
            for (int trough = 0; trough < plan.troughs; trough++) {
                int needed = hoursOfAll(trough);
                if (needed < fewest) {
                    fewest = needed;
                    best = trough;
                }
            }
            return tellHours && best != NO ? fewest : best;
        }

        private int hoursOfAll(int trough) {
            int most = 0;
            for (int horse = 0; horse < plan.horses; horse++) {
                if (now.isOn(horse)) {
                    int far = Math.abs(plan.troughPlace[trough] - now.place[horse]);
                    most = Math.max(most, plan.hoursFor(horse, far));
                }
            }
            return most;
        }

        int manyRests(int one, int other) {
            int many = 0;
            for (int both = 0; both < 4; both++) {
                many += isRest(one, other, both / 2, both % 2) ? 1 : 0;
            }
            return many;
        }

        int restNumbered(int one, int other, int k) {
            int many = 0;
            for (int both = 0; both < 4; both++) {
                if (isRest(one, other, both / 2, both % 2)) {
                    if (many == k) {
                        return both / 2 * 10 + both % 2;
                    }
                    many++;
                }
            }
            return NO;
        }

        private boolean isRest(int one, int other, int ones, int others) {
            return gain(one, other, ones, others) >= gain(one, other, 1 - ones, others)
                    && gain(other, one, others, ones) >= gain(other, one, 1 - others, ones);
        }

        /** What a HORSE has in a GAME, if it does the one (0 drinks, 1 goes on), the other the other. */
        private int gain(int horse, int other, int does, int otherDoes) {
            if (does == 0) {
                return otherDoes == 0 ? 10 - Math.abs(plan.horseSide[horse] - plan.horseSide[other])
                        : now.thirst[horse] / 5;
            }
            return otherDoes == 0 ? plan.horsePace[horse] : plan.horsePace[horse] / 2;
        }
    }

    /** What was SEEN, STRIKES among it. */
    private static final class Seen {
        int many = 0;
        /** By how many it is KNOWN, NONE for all. */
        private int knownBy = NONE;
        private final int[] hour = new int[SEEN_MOST];
        private final int[] trough = new int[SEEN_MOST];
        private final int[] water = new int[SEEN_MOST];
        private final boolean[] atLeast = new boolean[SEEN_MOST];
        private final int[] strikeOf = new int[SEEN_MOST];
        private final boolean[] struck = new boolean[SEEN_MOST];

        void forget() {
            many = 0;
            knownBy = NONE;
        }

        int addSight(int hour, int trough, int water, boolean atLeast) {
            if (many >= SEEN_MOST) {
                return NONE;
            }
            this.hour[many] = hour;
            this.trough[many] = trough;
            this.water[many] = water;
            this.atLeast[many] = atLeast;
            strikeOf[many] = NONE;
            many++;
            return many - 1;
        }

        int addStrike(int number) {
            if (many >= SEEN_MOST || number < 0 || number >= many) {
                return NONE;
            }
            strikeOf[many] = number;
            many++;
            return many - 1;
        }

        boolean knowBy(int n) {
            if (n < NONE || n > many) {
                return false;
            }
            knownBy = n;
            return true;
        }

        int manyKnown() {
            return knownBy == NONE ? many : knownBy;
        }

        /** From the last one on: who strikes stands behind what it strikes. */
        void markStruck() {
            for (int i = 0; i < SEEN_MOST; i++) {
                struck[i] = false;
            }
            for (int i = manyKnown() - 1; i >= 0; i--) {
                if (strikeOf[i] != NONE && !struck[i]) {
                    struck[strikeOf[i]] = true;
                }
            }
        }

        private boolean counts(int number) {
            return strikeOf[number] == NONE && !struck[number];
        }

        int lastHour() {
            int last = 0;
            for (int i = 0; i < manyKnown(); i++) {
                last = counts(i) ? Math.max(last, hour[i]) : last;
            }
            return last;
        }

        /** Whether all that counts of this world's HOUR is so. */
        boolean fits(World world) {
            for (int i = 0; i < manyKnown(); i++) {
                if (counts(i) && hour[i] == world.hour && world.water[trough[i]] >= water[i] != atLeast[i]) {
                    return false;
                }
            }
            return true;
        }
    }

    /** What was done by call since the last HOUR: how a HORSE or a TROUGH stood ahead of it. */
    private static final class Deeds {
        int many = 0;
        private final int[] horse = new int[UNDO_MOST];
        private final int[] trough = new int[UNDO_MOST];
        private final int[] place = new int[UNDO_MOST];
        private final int[] goal = new int[UNDO_MOST];
        private final int[] water = new int[UNDO_MOST];

        void forget() {
            many = 0;
        }

        void rememberHorse(int who, World world) {
            makeRoom();
            horse[many] = who;
            trough[many] = NONE;
            place[many] = world.place[who];
            goal[many] = world.goal[who];
            many++;
        }

        void rememberTrough(int which, World world) {
            makeRoom();
            horse[many] = NONE;
            trough[many] = which;
            water[many] = world.water[which];
            many++;
        }

        /** The eldest is forgotten, if there are as many as can be undone. */
        private void makeRoom() {
            if (many >= UNDO_MOST) {
                many = UNDO_MOST - 1;
                shift(horse);
                shift(trough);
                shift(place);
                shift(goal);
                shift(water);
            }
        }

        private static void shift(int[] row) {
            System.arraycopy(row, 1, row, 0, row.length - 1);
        }

        int undoLatest(World world) {
            if (many == 0) {
                return NONE;
            }
            many--;
            if (horse[many] != NONE) {
                world.place[horse[many]] = place[many];
                world.goal[horse[many]] = goal[many];
            } else {
                world.water[trough[many]] = water[many];
            }
            return many;
        }
    }
}
