import java.util.Arrays;

/**
 * Best of all times: players of many years joined by who met whom.
 * The words PLAYER, MEETING, SYSTEM and so on mean what the document's Terms say.
 */
public final class RopeRanks {
    public static final int NONE = -1, BAD = -2, NO = -3, FULL = -4;

    private static final int PLAYERS = 10;
    private static final int MEETINGS = 60;
    private static final int YEARS = 100;
    private static final int FIRST_BORN = -60;
    private static final int SYSTEMS = 4;
    private static final int SIGNS = 50;
    private static final int AGES = 160;
    private static final int CLASSES = 4;
    private static final int IMAGES = 2;
    private static final int LONGEST_ROW = 9;
    private static final int MOST_EVEN = 15;
    private static final int BAD_NUMBER = -100000;
    private static final int QUARRELS = -200000;
    private static final int NOT_JOINED = -300000;
    private static final int BAD_ROPE = -10;
    private static final int NOT_SO = -5;
    private static final long BAD_PART = -1000000000000L;

    private final Records now = new Records();
    private final Records[] images = {new Records(), new Records()};
    private final int[] kept = new int[IMAGES];
    private final Fraction fraction = new Fraction();
    private final Ladder ladder = new Ladder(now);
    private final Crown crown = new Crown(now, ladder);
    private final Strengths strengths = new Strengths(now);
    private final Ropes ropes = new Ropes(now);
    private final Wins wins = new Wins(now);

    public RopeRanks() {
    }

    // ---- players, meetings, systems

    public int player(int born) {
        if (born < FIRST_BORN || born >= YEARS) {
            return BAD;
        }
        if (now.players >= PLAYERS) {
            return FULL;
        }
        now.born[now.players] = born;
        return now.players++;
    }

    public int meeting(int year, int a, int b, int end, boolean given) {
        if (!isYear(year) || !now.isPair(a, b) || !within(end, 0, 2) || year < now.latestYear()) {
            return BAD;
        }
        if (now.meetings >= MEETINGS) {
            return FULL;
        }
        return now.addMeeting(year, a, b, end, given);
    }

    public int mark(int meeting, int what, boolean is) {
        if (!within(meeting, 0, now.meetings - 1) || !within(what, 0, 1)) {
            return BAD;
        }
        long bit = 1L << meeting;
        long marks = what == 0 ? now.given : now.doubted;
        if (((marks & bit) != 0) == is) {
            return NO;
        }
        if (what == 0) {
            now.given ^= bit;
        } else {
            now.doubted ^= bit;
        }
        return 1;
    }

    public int first(int system, int v) {
        if (!isSystem(system) || !within(v, 0, 9999)) {
            return BAD;
        }
        int was = now.first[system];
        now.first[system] = v;
        return was;
    }

    public int write(int system, int character) {
        if (!isSystem(system) || !within(character, 0, 127)) {
            return BAD;
        }
        int length = now.length[system];
        if (length >= SIGNS) {
            return FULL;
        }
        now.text[system * SIGNS + length] = character;
        now.length[system] = length + 1;
        return length + 1;
    }

    public int erase(int system) {
        if (!isSystem(system)) {
            return BAD;
        }
        int was = now.length[system];
        now.length[system] = 0;
        return was;
    }

    public int fault(int system) {
        return isSystem(system) ? ladder.flaw(system) : BAD;
    }

    public int number(int system, int player, int n) {
        if (!isSystem(system) || !now.isPlayer(player) || !within(n, 0, now.meetings)) {
            return BAD_NUMBER;
        }
        ladder.begin(system);
        ladder.playTo(n);
        return ladder.number[player];
    }

    public int paid(int system, int year) {
        if (!isSystem(system) || !isYear(year)) {
            return BAD_NUMBER;
        }
        return ladder.changesIn(system, year);
    }

    public int creep(int system, int from, int to) {
        if (!isSystem(system) || !isYear(from) || !isYear(to) || to <= from) {
            return BAD;
        }
        int both = now.whoMet(from) & now.whoMet(to);
        if (both == 0) {
            return 0;
        }
        fraction.put(ladder.rise(system, from, to, both), Integer.bitCount(both));
        return 1;
    }

    public int hiding(int system, int player, int year) {
        if (!isSystem(system) || !now.isPlayer(player) || !isYear(year)) {
            return BAD_NUMBER;
        }
        int hidden = ladder.lastWithout(system, player, year);
        ladder.begin(system);
        ladder.playTo(now.meetings);
        return hidden - ladder.number[player];
    }

    public int foretold(int system) {
        return isSystem(system) ? ladder.foresight(system) : BAD;
    }

    public int bestSystem() {
        int best = NONE;
        int most = NONE;
        for (int system = 0; system < SYSTEMS; system++) {
            int foresight = ladder.foresight(system);
            if (!ladder.isFlawed() && foresight > most) {
                best = system;
                most = foresight;
            }
        }
        return best;
    }

    // ---- strengths

    public int shape(int age, int v) {
        if (!within(age, 0, AGES - 1) || !within(v, -500, 500)) {
            return BAD_NUMBER;
        }
        int was = now.shape[age];
        now.shape[age] = v;
        return was;
    }

    public int wide(int wide, int even) {
        if (!within(wide, 1, 1000) || !within(even, 0, 500)) {
            return BAD;
        }
        now.wide = wide;
        now.even = even;
        return 1;
    }

    public int quarrel() {
        return strengths.agree() ? 0 : 1;
    }

    public int span(int player, int other, int what) {
        if (!now.isPair(player, other) || !within(what, 0, 1)) {
            return BAD_NUMBER;
        }
        if (!strengths.agree()) {
            return QUARRELS;
        }
        if (!ropes.areJoined(player, other)) {
            return NOT_JOINED;
        }
        return what == 0 ? -strengths.greatest(other, player) : strengths.greatest(player, other);
    }

    public long fewest() {
        return strengths.leastLeftOut();
    }

    public int island(int player) {
        if (player == NONE) {
            return ropes.islands();
        }
        return now.isPlayer(player) ? ropes.leastOf(player) : BAD;
    }

    public int rope(int player, int other, int what) {
        if (!now.isPlayer(player) || !now.isPlayer(other) || what < NONE) {
            return BAD_ROPE;
        }
        int length = ropes.length(player, other);
        if (what == NONE) {
            return length;
        }
        return what < length ? ropes.meetingAt(player, what) : NOT_SO;
    }

    public long bridges() {
        return ropes.bridgeBits();
    }

    // ---- questions

    public int best(int system, int question, int k) {
        if (!isSystem(system) || !within(question, 0, 2)) {
            return BAD;
        }
        if (question == 1 && !within(k, 1, LONGEST_ROW)) {
            return BAD;
        }
        crown.ask(system, question, k);
        if (question == 2 && crown.holder != NONE) {
            fraction.put(crown.above, crown.below);
        }
        return crown.holder;
    }

    public int rounds() {
        return wins.rings();
    }

    public int ways(int what) {
        if (what != NONE && !now.isPlayer(what)) {
            return BAD;
        }
        wins.explain();
        return what == NONE ? wins.most : wins.bestWay[what];
    }

    public int even(int player, int other, int a, int b) {
        if (!now.isPair(player, other) || a < 1 || b <= a || b > 9) {
            return BAD;
        }
        int n = now.meetingsOf(player, other);
        if (!within(n, 1, MOST_EVEN)) {
            return NO;
        }
        fraction.put(Chance.cases(n, now.evenMeetingsOf(player, other), a, b), Chance.power(b, n));
        return 1;
    }

    public int looked() {
        int pairs = 0;
        for (int p = 0; p < now.players; p++) {
            for (int q = p + 1; q < now.players; q++) {
                if (within(now.meetingsOf(p, q), 1, MOST_EVEN)) {
                    pairs++;
                }
            }
        }
        return pairs;
    }

    public int moves(int player, int hard, int right, int all) {
        if (!now.isPlayer(player) || !isClass(hard)) {
            return BAD;
        }
        if (!within(all, 1, 99) || !within(right, 0, all)) {
            return BAD;
        }
        now.right[player * CLASSES + hard] = right;
        now.all[player * CLASSES + hard] = all;
        return 1;
    }

    public int weight(int hard, int v) {
        if (!isClass(hard) || !within(v, 1, 9)) {
            return BAD;
        }
        int was = now.weight[hard];
        now.weight[hard] = v;
        return was;
    }

    public int share(int player, int what) {
        if (!now.isPlayer(player) || !within(what, 0, 1)) {
            return BAD;
        }
        if (now.movesOf(player) == 0) {
            return NO;
        }
        if (what == 0) {
            fraction.put(now.rightOf(player), now.movesOf(player));
        } else {
            putRight(player);
        }
        return 1;
    }

    public long part(int what) {
        if (!within(what, 0, 1)) {
            return BAD_PART;
        }
        return what == 0 ? fraction.above : fraction.below;
    }

    public int image(int i) {
        if (!within(i, 0, IMAGES - 1)) {
            return BAD;
        }
        images[i].take(now);
        kept[i] = 1;
        return 1;
    }

    public int from(int i) {
        if (!within(i, 0, IMAGES - 1)) {
            return BAD;
        }
        if (kept[i] == 0) {
            return NO;
        }
        now.take(images[i]);
        return 1;
    }

    public int count(int what) {
        switch (what) {
            case 0:
                return now.players;
            case 1:
                return now.meetings;
            case 2:
                return Long.bitCount(now.given);
            case 3:
                return Long.bitCount(now.doubted);
            default:
                return BAD;
        }
    }

    public long digest() {
        long h = 449;
        for (int what = 0; what < 4; what++) {
            h = 31 * h + count(what);
        }
        h = now.digested(h);
        h = 31 * h + fraction.above;
        return 31 * h + fraction.below;
    }

    private static boolean within(int v, int least, int most) {
        return v >= least && v <= most;
    }

    private static boolean isYear(int year) {
        return within(year, 0, YEARS - 1);
    }

    private static boolean isSystem(int system) {
        return within(system, 0, SYSTEMS - 1);
    }

    private static boolean isClass(int hard) {
        return within(hard, 0, CLASSES - 1);
    }

    private void putRight(int player) {
        long above = 0;
        long below = 1;
        int weights = 0;
        for (int c = 0; c < CLASSES; c++) {
            int right = now.right[player * CLASSES + c];
            int all = now.all[player * CLASSES + c];
            if (all > 0) {
                above = above * all + below * now.weight[c] * right;
                below *= all;
                weights += now.weight[c];
            }
        }
        fraction.put(above, below * weights);
    }

    /** All that an IMAGE keeps. */
    private static final class Records {
        int players;
        int meetings;
        long given;
        long doubted;
        int wide = 400;
        int even = 50;
        final int[] born = new int[PLAYERS];
        final int[] right = new int[PLAYERS * CLASSES];
        final int[] all = new int[PLAYERS * CLASSES];
        final int[] year = new int[MEETINGS];
        final int[] a = new int[MEETINGS];
        final int[] b = new int[MEETINGS];
        final int[] end = new int[MEETINGS];
        final int[] first = {1000, 1000, 1000, 1000};
        final int[] length = new int[SYSTEMS];
        final int[] text = new int[SYSTEMS * SIGNS];
        final int[] shape = new int[AGES];
        final int[] weight = {1, 1, 1, 1};

        boolean isPlayer(int p) {
            return p >= 0 && p < players;
        }

        boolean isPair(int p, int q) {
            return isPlayer(p) && isPlayer(q) && p != q;
        }

        int latestYear() {
            return meetings > 0 ? year[meetings - 1] : 0;
        }

        int addMeeting(int when, int one, int two, int how, boolean isGiven) {
            int i = meetings;
            year[i] = when;
            a[i] = one;
            b[i] = two;
            end[i] = how;
            if (isGiven) {
                given |= 1L << i;
            }
            meetings++;
            return i;
        }

        boolean isGiven(int i) {
            return (given >> i & 1) != 0;
        }

        /** The MEETINGS that say something, as bits. */
        long saying() {
            return (1L << meetings) - 1 & ~given & ~doubted;
        }

        boolean isOf(int i, int p) {
            return a[i] == p || b[i] == p;
        }

        int otherOf(int i, int p) {
            return a[i] == p ? b[i] : a[i];
        }

        int pairBits(int i) {
            return 1 << a[i] | 1 << b[i];
        }

        boolean endsYear(int i) {
            return i + 1 >= meetings || year[i + 1] != year[i];
        }

        /** The PLAYERS who met in a YEAR, as bits. */
        int whoMet(int when) {
            int who = 0;
            for (int i = 0; i < meetings; i++) {
                if (year[i] == when) {
                    who |= pairBits(i);
                }
            }
            return who;
        }

        int meetingsOf(int p, int q) {
            int n = 0;
            for (int i = 0; i < meetings; i++) {
                if (isOf(i, p) && isOf(i, q)) {
                    n++;
                }
            }
            return n;
        }

        int evenMeetingsOf(int p, int q) {
            int n = 0;
            for (int i = 0; i < meetings; i++) {
                if (isOf(i, p) && isOf(i, q) && end[i] == 1) {
                    n++;
                }
            }
            return n;
        }

        int shapeOf(int p, int when) {
            return shape[Math.max(0, Math.min(AGES - 1, when - born[p]))];
        }

        int rightOf(int p) {
            int sum = 0;
            for (int c = 0; c < CLASSES; c++) {
                sum += right[p * CLASSES + c];
            }
            return sum;
        }

        int movesOf(int p) {
            int sum = 0;
            for (int c = 0; c < CLASSES; c++) {
                sum += all[p * CLASSES + c];
            }
            return sum;
        }

        void take(Records other) {
            players = other.players;
            meetings = other.meetings;
            given = other.given;
            doubted = other.doubted;
            wide = other.wide;
            even = other.even;
            System.arraycopy(other.born, 0, born, 0, PLAYERS);
            System.arraycopy(other.right, 0, right, 0, PLAYERS * CLASSES);
            System.arraycopy(other.all, 0, all, 0, PLAYERS * CLASSES);
            System.arraycopy(other.year, 0, year, 0, MEETINGS);
            System.arraycopy(other.a, 0, a, 0, MEETINGS);
            System.arraycopy(other.b, 0, b, 0, MEETINGS);
            System.arraycopy(other.end, 0, end, 0, MEETINGS);
            System.arraycopy(other.first, 0, first, 0, SYSTEMS);
            System.arraycopy(other.length, 0, length, 0, SYSTEMS);
            System.arraycopy(other.text, 0, text, 0, SYSTEMS * SIGNS);
            System.arraycopy(other.shape, 0, shape, 0, AGES);
            System.arraycopy(other.weight, 0, weight, 0, CLASSES);
        }

        long digested(long begun) {
            long h = digestedPlayers(begun);
            h = digestedMeetings(h);
            for (int s = 0; s < SYSTEMS; s++) {
                h = 31 * h + first[s];
                h = 31 * h + length[s];
                for (int i = 0; i < length[s]; i++) {
                    h = 31 * h + text[s * SIGNS + i];
                }
            }
            for (int age = 0; age < AGES; age++) {
                h = 31 * h + shape[age];
            }
            h = 31 * h + wide;
            h = 31 * h + even;
            for (int c = 0; c < CLASSES; c++) {
                h = 31 * h + weight[c];
            }
            return h;
        }

        private long digestedPlayers(long begun) {
            long h = begun;
            for (int p = 0; p < players; p++) {
                h = 31 * h + born[p];
                for (int c = 0; c < CLASSES; c++) {
                    h = 31 * h + right[p * CLASSES + c];
                    h = 31 * h + all[p * CLASSES + c];
                }
            }
            return h;
        }

        private long digestedMeetings(long begun) {
            long h = begun;
            for (int i = 0; i < meetings; i++) {
                h = 31 * h + year[i];
                h = 31 * h + a[i];
                h = 31 * h + b[i];
                h = 31 * h + end[i];
                h = 31 * h + (given >> i & 1);
                h = 31 * h + (doubted >> i & 1);
            }
            return h;
        }
    }

    /** THE FRACTION, in lowest terms. */
    private static final class Fraction {
        long above = 0;
        long below = 1;

        void put(long newAbove, long newBelow) {
            long common = divisor(Math.abs(newAbove), newBelow);
            if (common > 0) {
                above = newAbove / common;
                below = newBelow / common;
            }
        }

        /** Euclid's way; a hundred rounds are more than two longs can need. */
        private static long divisor(long one, long two) {
            long greater = one;
            long less = two;
            for (int i = 0; i < 100 && less != 0; i++) {
                long left = greater % less;
                greater = less;
                less = left;
            }
            return greater;
        }
    }

    /** Chances as whole numbers: how many of power(b, n) like cases. */
    private static final class Chance {
        static long power(int base, int n) {
            long product = 1;
            for (int i = 0; i < n; i++) {
                product *= base;
            }
            return product;
        }

        /** Cases in which d or more of n come out, when a of b do for each. */
        static long cases(int n, int d, int a, int b) {
            long sum = 0;
            long choices = 1;
            for (int i = 0; i <= n; i++) {
                if (i >= d) {
                    sum += choices * power(a, i) * power(b - a, n - i);
                }
                choices = choices * (n - i) / (i + 1);
            }
            return sum;
        }
    }

    /** A SYSTEM's text, made into steps for a small stack, so that it is read once a call. */
    private static final class Formula {
        private static final int END = -1;
        private static final int HELDS = 2;
        private static final int UNITS = 5;
        private static final int MOST_OPEN = 8;
        private static final int MOST_DIGITS = 6;
        /** Stands for the - ahead of a UNIT, to tell it from the one between TERMS. */
        private static final int LESS = '~';

        final long[] told = new long[6];
        int flaw = NONE;
        private final int[] signs = new int[SIGNS];
        /** Numbers as they are; signs and letters below 0, as minus their character. */
        private final int[] steps = new int[SIGNS];
        private final long[] stack = new long[SIGNS];
        private int length;
        private int place;
        private int open;
        private int size;
        private int top;

        void read(Records records, int system) {
            length = records.length[system];
            System.arraycopy(records.text, system * SIGNS, signs, 0, length);
            place = 0;
            open = 0;
            size = 0;
            flaw = NONE;
            readLevel(0);
            if (flaw == NONE && next() != END) {
                fail(1);
            }
        }

        long worth() {
            top = 0;
            for (int i = 0; i < size; i++) {
                if (steps[i] >= 0) {
                    push(steps[i]);
                } else {
                    work(-steps[i]);
                }
            }
            return pop();
        }

        /** Levels 0 to 4 are VALUE, BOTH, HELD, SUM, TERM; each is made of the next one. */
        private void readLevel(int level) {
            if (level >= UNITS) {
                readUnit();
                return;
            }
            readLevel(level + 1);
            int most = level == HELDS ? 1 : SIGNS;
            for (int i = 0; i < most; i++) {
                int sign = next();
                if (levelOf(sign) != level) {
                    return;
                }
                place++;
                readLevel(level + 1);
                add(-sign);
            }
        }

        private void readUnit() {
            int begin = place;
            int sign = next();
            for (int i = 0; i < SIGNS && (sign == '!' || sign == '-'); i++) {
                place++;
                sign = next();
            }
            int core = place;
            if (sign >= '0' && sign <= '9') {
                readDigits();
            } else if (letterOf(sign) != NONE) {
                place++;
                add(-sign);
            } else if (sign == '(') {
                readBrackets();
            } else {
                fail(1);
            }
            addAheadSigns(begin, core);
        }

        /** The sign nearest to the UNIT is worked first. */
        private void addAheadSigns(int begin, int core) {
            for (int i = core - 1; i >= begin; i--) {
                if (signs[i] == '!') {
                    add(-'!');
                } else if (signs[i] == '-') {
                    add(-LESS);
                }
            }
        }

        private void readDigits() {
            int begin = place;
            int value = 0;
            for (; place < length && signs[place] >= '0' && signs[place] <= '9'; place++) {
                if (place - begin >= MOST_DIGITS) {
                    place = begin;
                    fail(2);
                    return;
                }
                value = value * 10 + signs[place] - '0';
            }
            add(value);
        }

        private void readBrackets() {
            if (open >= MOST_OPEN) {
                fail(3);
                return;
            }
            place++;
            open++;
            readLevel(0);
            open--;
            if (next() == ')') {
                place++;
            } else {
                fail(1);
            }
        }

        /** The sign behind any blanks; END at the end, and with a flaw, so that all reading ends. */
        private int next() {
            if (flaw != NONE) {
                return END;
            }
            while (place < length && signs[place] == ' ') {
                place++;
            }
            return place < length ? signs[place] : END;
        }

        private void fail(int kind) {
            if (flaw == NONE) {
                flaw = place * 10 + kind;
            }
        }

        private void add(int step) {
            if (size < SIGNS) {
                steps[size] = step;
                size++;
            }
        }

        private static int levelOf(int sign) {
            switch (sign) {
                case '|':
                    return 0;
                case '&':
                    return 1;
                case '<':
                case '>':
                case '=':
                    return HELDS;
                case '+':
                case '-':
                    return 3;
                case '*':
                case '/':
                    return 4;
                default:
                    return NONE;
            }
        }

        private static int letterOf(int sign) {
            switch (sign) {
                case 'x':
                    return 0;
                case 'o':
                    return 1;
                case 'e':
                    return 2;
                case 'm':
                    return 3;
                case 'y':
                    return 4;
                case 'g':
                    return 5;
                default:
                    return NONE;
            }
        }

        private void work(int sign) {
            int letter = letterOf(sign);
            if (letter != NONE) {
                push(told[letter]);
                return;
            }
            long right = pop();
            if (sign == '!') {
                push(right == 0 ? 1 : 0);
            } else if (sign == LESS) {
                push(-right);
            } else {
                push(between(pop(), sign, right));
            }
        }

        private static long between(long left, int sign, long right) {
            switch (sign) {
                case '|':
                    return left != 0 || right != 0 ? 1 : 0;
                case '&':
                    return left != 0 && right != 0 ? 1 : 0;
                case '<':
                    return left < right ? 1 : 0;
                case '>':
                    return left > right ? 1 : 0;
                case '=':
                    return left == right ? 1 : 0;
                case '+':
                    return left + right;
                case '-':
                    return left - right;
                case '*':
                    return left * right;
                default:
                    return right == 0 ? 0 : left / right;
            }
        }

        private void push(long value) {
            if (top < SIGNS) {
                stack[top] = value;
                top++;
            }
        }

        private long pop() {
            if (top <= 0) {
                return 0;
            }
            top--;
            return stack[top];
        }
    }

    /** Numbers of all PLAYERS by one SYSTEM, MEETING by MEETING. */
    private static final class Ladder {
        private static final int MOST_CHANGE = 500;
        private static final int NEAR = 50;

        final int[] number = new int[PLAYERS];
        private final Records records;
        private final Formula formula = new Formula();
        private final int[] met = new int[PLAYERS];
        private final int[] lastYear = new int[PLAYERS];
        private int change;

        Ladder(Records records) {
            this.records = records;
        }

        int flaw(int system) {
            formula.read(records, system);
            return formula.flaw;
        }

        /** Of the SYSTEM that was begun last. */
        boolean isFlawed() {
            return formula.flaw != NONE;
        }

        void begin(int system) {
            formula.read(records, system);
            Arrays.fill(number, records.first[system]);
            Arrays.fill(met, 0);
            Arrays.fill(lastYear, 0);
        }

        void playTo(int n) {
            for (int i = 0; i < n; i++) {
                play(i);
            }
        }

        void play(int i) {
            int a = records.a[i];
            int b = records.b[i];
            int forA = changeOf(i, a, b, records.end[i]);
            int forB = changeOf(i, b, a, 2 - records.end[i]);
            settle(a, forA, records.year[i]);
            settle(b, forB, records.year[i]);
            change = forA + forB;
        }

        int changesIn(int system, int year) {
            begin(system);
            int sum = 0;
            for (int i = 0; i < records.meetings; i++) {
                play(i);
                if (records.year[i] == year) {
                    sum += change;
                }
            }
            return sum;
        }

        /** What the numbers of some PLAYERS rose by, together, from the end of a YEAR to that of another. */
        int rise(int system, int from, int to, int who) {
            begin(system);
            int i = 0;
            for (; i < records.meetings && records.year[i] <= from; i++) {
                play(i);
            }
            int before = sumOf(who);
            for (; i < records.meetings && records.year[i] <= to; i++) {
                play(i);
            }
            return sumOf(who) - before;
        }

        int sumOf(int who) {
            int sum = 0;
            for (int p = 0; p < records.players; p++) {
                if ((who >> p & 1) != 0) {
                    sum += number[p];
                }
            }
            return sum;
        }

        int lastWithout(int system, int player, int year) {
            begin(system);
            for (int i = 0; i < records.meetings; i++) {
                if (records.year[i] != year || !records.isOf(i, player)) {
                    play(i);
                }
            }
            return number[player];
        }

        int foresight(int system) {
            begin(system);
            int sum = 0;
            for (int i = 0; i < records.meetings; i++) {
                if (!records.isGiven(i)) {
                    sum += pointsFor(i);
                }
                play(i);
            }
            return sum;
        }

        private int pointsFor(int i) {
            int ahead = number[records.a[i]] - number[records.b[i]];
            switch (records.end[i]) {
                case 0:
                    return ahead < 0 ? 2 : 0;
                case 2:
                    return ahead > 0 ? 2 : 0;
                default:
                    return Math.abs(ahead) <= NEAR ? 1 : 0;
            }
        }

        private int changeOf(int i, int him, int other, int end) {
            if (isFlawed()) {
                return 0;
            }
            long[] told = formula.told;
            told[0] = number[him];
            told[1] = number[other];
            told[2] = end;
            told[3] = met[him];
            told[4] = met[him] > 0 ? records.year[i] - lastYear[him] : 0;
            told[5] = records.isGiven(i) ? 1 : 0;
            return (int) Math.max(-MOST_CHANGE, Math.min(MOST_CHANGE, formula.worth()));
        }

        private void settle(int p, int by, int year) {
            number[p] += by;
            met[p]++;
            lastYear[p] = year;
        }
    }

    /** Who is BEST by a question, and by which worth. */
    private static final class Crown {
        int holder;
        long above;
        long below;
        private final Records records;
        private final Ladder ladder;
        /** The last numbers at ends of YEARS of each PLAYER, as many as a question may look at. */
        private final int[] ends = new int[PLAYERS * LONGEST_ROW];
        private final int[] years = new int[PLAYERS];

        Crown(Records records, Ladder ladder) {
            this.records = records;
            this.ladder = ladder;
        }

        void ask(int system, int question, int k) {
            holder = NONE;
            Arrays.fill(years, 0);
            ladder.begin(system);
            int who = 0;
            for (int i = 0; i < records.meetings; i++) {
                ladder.play(i);
                who |= records.pairBits(i);
                if (records.endsYear(i)) {
                    judgeYear(who, question, k);
                    who = 0;
                }
            }
        }

        private void judgeYear(int who, int question, int k) {
            int n = Integer.bitCount(who);
            int sum = ladder.sumOf(who);
            for (int p = 0; p < records.players; p++) {
                if ((who >> p & 1) == 0) {
                    continue;
                }
                if (question == 0) {
                    offer(p, ladder.number[p], 1);
                } else if (question == 1) {
                    judgeRow(p, k);
                } else {
                    offer(p, ladder.number[p] * n - sum, n);
                }
            }
        }

        private void judgeRow(int p, int k) {
            ends[p * LONGEST_ROW + years[p] % LONGEST_ROW] = ladder.number[p];
            years[p]++;
            if (years[p] < k) {
                return;
            }
            int least = ladder.number[p];
            for (int back = 2; back <= k; back++) {
                least = Math.min(least, ends[p * LONGEST_ROW + (years[p] - back) % LONGEST_ROW]);
            }
            offer(p, least, 1);
        }

        private void offer(int p, long newAbove, long newBelow) {
            long more = holder == NONE ? 1 : newAbove * below - above * newBelow;
            if (more > 0 || more == 0 && p < holder) {
                holder = p;
                above = newAbove;
                below = newBelow;
            }
        }
    }

    /** STRENGTHS, as bounds on differences that MEETINGS set. */
    private static final class Strengths {
        private static final int UNBOUND = 1000000;
        private static final int MOST_LEFT_OUT = 3;

        private final Records records;
        /** Of each MEETING: a less b is low to high, without SHAPES. */
        private final int[] low = new int[MEETINGS];
        private final int[] high = new int[MEETINGS];
        /** How much each PLAYER may be at most, and the MEETING that set it. */
        private final int[] most = new int[PLAYERS];
        private final int[] via = new int[PLAYERS];
        private long found;

        Strengths(Records records) {
            this.records = records;
        }

        boolean agree() {
            readBounds();
            return ringOf(records.saying()) == 0;
        }

        /** The greatest difference of one less another; they are joined, and do not QUARREL. */
        int greatest(int one, int other) {
            readBounds();
            Arrays.fill(most, UNBOUND);
            most[other] = 0;
            long saying = records.saying();
            boolean lowered = true;
            for (int i = 0; i < PLAYERS && lowered; i++) {
                lowered = tighten(saying);
            }
            return most[one];
        }

        long leastLeftOut() {
            readBounds();
            long saying = records.saying();
            for (int n = ringsApart(saying); n <= MOST_LEFT_OUT; n++) {
                found = NONE;
                leaveOut(saying, 0, 0, n);
                if (found != NONE) {
                    return found;
                }
            }
            return NOT_SO;
        }

        private void readBounds() {
            for (int i = 0; i < records.meetings; i++) {
                int year = records.year[i];
                int shapes = records.shapeOf(records.a[i], year) - records.shapeOf(records.b[i], year);
                int end = records.end[i];
                if (end == 1) {
                    low[i] = -records.even - shapes;
                    high[i] = records.even - shapes;
                } else {
                    low[i] = (end == 2 ? 1 : -records.wide) - shapes;
                    high[i] = (end == 2 ? records.wide : -1) - shapes;
                }
            }
        }

        /** How many rings that QUARREL share no MEETING: at least so many must be left out. */
        private int ringsApart(long saying) {
            long rest = saying;
            for (int n = 0; n <= MOST_LEFT_OUT; n++) {
                long ring = ringOf(rest);
                if (ring == 0) {
                    return n;
                }
                rest &= ~ring;
            }
            return MOST_LEFT_OUT + 1;
        }

        /**
         * Some MEETING of every ring must be left out, so only those of one ring are tried.
         * What an earlier branch has left out the later ones keep: no set is met twice.
         */
        private void leaveOut(long saying, long out, long keep, int left) {
            if (found != NONE && out >= found) {
                return;
            }
            long ring = ringOf(saying & ~out);
            if (ring == 0) {
                found = out;
                return;
            }
            if (left <= 0) {
                return;
            }
            long tried = keep;
            for (int i = 0; i < records.meetings; i++) {
                long bit = 1L << i;
                if ((ring & ~tried & bit) != 0) {
                    leaveOut(saying, out | bit, tried, left - 1);
                    tried |= bit;
                }
            }
        }

        /** The MEETINGS, as bits, of a ring that QUARRELS; 0 without one. */
        private long ringOf(long saying) {
            Arrays.fill(most, 0);
            Arrays.fill(via, NONE);
            for (int i = 0; i < PLAYERS && tighten(saying); i++) {
                long ring = ringOfVias();
                if (ring != 0) {
                    return ring;
                }
            }
            return 0;
        }

        /** One round over all bounds: whether any PLAYER's was lowered. */
        private boolean tighten(long saying) {
            boolean lowered = false;
            for (int i = 0; i < records.meetings; i++) {
                if ((saying >> i & 1) != 0) {
                    int a = records.a[i];
                    int b = records.b[i];
                    boolean one = lower(a, b, high[i], i);
                    boolean two = lower(b, a, -low[i], i);
                    lowered = lowered || one || two;
                }
            }
            return lowered;
        }

        private boolean lower(int p, int by, int step, int meeting) {
            if (most[by] == UNBOUND || most[p] <= most[by] + step) {
                return false;
            }
            most[p] = most[by] + step;
            via[p] = meeting;
            return true;
        }

        /** Bounds that were set in a ring can only be so if the ring QUARRELS. */
        private long ringOfVias() {
            for (int p = 0; p < records.players; p++) {
                int q = p;
                for (int i = 0; i < PLAYERS && via[q] != NONE; i++) {
                    q = records.otherOf(via[q], q);
                }
                if (via[q] != NONE) {
                    return ringThrough(q);
                }
            }
            return 0;
        }

        private long ringThrough(int p) {
            long ring = 0;
            int q = p;
            for (int i = 0; i < PLAYERS && via[q] != NONE; i++) {
                ring |= 1L << via[q];
                q = records.otherOf(via[q], q);
                if (q == p) {
                    return ring;
                }
            }
            return ring;
        }
    }

    /** Who is JOINED, and by which MEETINGS. */
    private static final class Ropes {
        private final Records records;
        /** With whom each PLAYER has a MEETING that says something, as bits. */
        private final int[] links = new int[PLAYERS];
        /** MEETINGS from the PLAYER who was measured from; NONE: not JOINED. */
        private final int[] far = new int[PLAYERS];

        Ropes(Records records) {
            this.records = records;
        }

        boolean areJoined(int p, int q) {
            link(records.saying());
            measure(q);
            return far[p] != NONE;
        }

        int islands() {
            int n = 0;
            link(records.saying());
            for (int p = 0; p < records.players; p++) {
                measure(p);
                if (leastMeasured() == p) {
                    n++;
                }
            }
            return n;
        }

        int leastOf(int p) {
            link(records.saying());
            measure(p);
            return leastMeasured();
        }

        int length(int p, int q) {
            return areJoined(p, q) ? far[p] : NOT_SO;
        }

        /** The i-th MEETING from p, on the ROPE that was measured last. */
        int meetingAt(int p, int i) {
            int at = p;
            for (int step = 0; step < i && step < PLAYERS; step++) {
                at = nearerThan(at);
            }
            return leastMeeting(at, nearerThan(at));
        }

        long bridgeBits() {
            long saying = records.saying();
            long bridges = 0;
            for (int i = 0; i < records.meetings; i++) {
                long bit = 1L << i;
                if ((saying & bit) != 0) {
                    link(saying & ~bit);
                    measure(records.a[i]);
                    bridges |= far[records.b[i]] == NONE ? bit : 0;
                }
            }
            return bridges;
        }

        private void link(long which) {
            Arrays.fill(links, 0);
            for (int i = 0; i < records.meetings; i++) {
                if ((which >> i & 1) != 0) {
                    links[records.a[i]] |= 1 << records.b[i];
                    links[records.b[i]] |= 1 << records.a[i];
                }
            }
        }

        private void measure(int p) {
            Arrays.fill(far, NONE);
            int seen = 0;
            int edge = 1 << p;
            for (int steps = 0; steps < PLAYERS && edge != 0; steps++) {
                seen |= edge;
                int beyond = 0;
                for (int q = 0; q < records.players; q++) {
                    if ((edge >> q & 1) != 0) {
                        far[q] = steps;
                        beyond |= links[q];
                    }
                }
                edge = beyond & ~seen;
            }
        }

        private int leastMeasured() {
            for (int q = 0; q < records.players; q++) {
                if (far[q] != NONE) {
                    return q;
                }
            }
            return NONE;
        }

        /** The least PLAYER who is one MEETING nearer; the same one at the end. */
        private int nearerThan(int p) {
            for (int q = 0; q < records.players; q++) {
                if ((links[p] >> q & 1) != 0 && far[q] == far[p] - 1) {
                    return q;
                }
            }
            return p;
        }

        private int leastMeeting(int p, int q) {
            long saying = records.saying();
            for (int i = 0; i < records.meetings; i++) {
                if ((saying >> i & 1) != 0 && records.isOf(i, p) && records.isOf(i, q)) {
                    return i;
                }
            }
            return NOT_SO;
        }
    }

    /** Who beat whom in MEETINGS that are not GIVEN. */
    private static final class Wins {
        private static final int KINDS = 3;

        int most;
        final int[] bestWay = new int[PLAYERS];
        private final Records records;
        private final int[] beat = new int[PLAYERS * PLAYERS];
        private final int[] way = new int[PLAYERS];
        /** What each way would add for a PLAYER, by the ways of those ahead of him. */
        private final int[] gain = new int[PLAYERS * KINDS];
        /** The most that a PLAYER and all behind him can still add. */
        private final int[] rest = new int[PLAYERS + 1];

        Wins(Records records) {
            this.records = records;
        }

        int rings() {
            readWins();
            int n = 0;
            for (int a = 0; a < records.players; a++) {
                for (int b = a + 1; b < records.players; b++) {
                    for (int c = b + 1; c < records.players; c++) {
                        n += ring(a, b, c) + ring(a, c, b);
                    }
                }
            }
            return n;
        }

        void explain() {
            readWins();
            readRest();
            most = NONE;
            giveWay(0, 0);
        }

        private int ring(int a, int b, int c) {
            boolean is = winsOf(a, b) > 0 && winsOf(b, c) > 0 && winsOf(c, a) > 0;
            return is ? 1 : 0;
        }

        private int winsOf(int p, int q) {
            return beat[p * PLAYERS + q];
        }

        private void readWins() {
            Arrays.fill(beat, 0);
            for (int i = 0; i < records.meetings; i++) {
                int a = records.a[i];
                int b = records.b[i];
                if (!records.isGiven(i) && records.end[i] != 1) {
                    beat[records.end[i] == 2 ? a * PLAYERS + b : b * PLAYERS + a]++;
                }
            }
        }

        private void readRest() {
            Arrays.fill(rest, 0);
            for (int p = records.players - 1; p >= 0; p--) {
                rest[p] = rest[p + 1];
                for (int q = 0; q < p; q++) {
                    rest[p] += Math.max(winsOf(p, q), winsOf(q, p));
                }
            }
        }

        /** In the order of rows: only more takes the place of the first one with as many. */
        private void giveWay(int p, int got) {
            if (p >= records.players) {
                if (got > most) {
                    most = got;
                    System.arraycopy(way, 0, bestWay, 0, PLAYERS);
                }
                return;
            }
            readGain(p);
            // turning all ways by one changes nothing, so the first row begins with 0
            int kinds = p == 0 ? 1 : KINDS;
            for (int w = 0; w < kinds; w++) {
                int then = got + gain[p * KINDS + w];
                if (then + rest[p + 1] > most) {
                    way[p] = w;
                    giveWay(p + 1, then);
                }
            }
        }

        private void readGain(int p) {
            for (int w = 0; w < KINDS; w++) {
                gain[p * KINDS + w] = 0;
            }
            for (int q = 0; q < p; q++) {
                gain[p * KINDS + (way[q] + 1) % KINDS] += winsOf(q, p);
                gain[p * KINDS + (way[q] + 2) % KINDS] += winsOf(p, q);
            }
        }
    }
}
