import java.math.BigInteger;
import java.util.ArrayList;
import java.util.List;
import java.util.Random;

/**
 * Random runs of 512 calls against a plain model, written apart from the class and by other ways:
 * texts by a state machine and by splitting, strengths by Floyd and Warshall, sets and ways by trying all.
 */
public final class ModelTest {
    private static final int RUNS = 120;
    private static final String[] TEXTS = {"(e-1)*20", "(e-1)*16+(o-x)/25", "-y+e*9-9", "e*e*7-m+g*3", "x<o&e>1|m=2",
        "(e-1)*(20-m)", "!(x>o)*50-e*30", "x*x*x*x*x*x*x/o", "500-(x-o)*3/(y-1)", "999999*(e-1)", "e*100-100-g*50"};
    private static final String SIGNS = "xoemyg0123456789+-*/<>=&|!() ";

    private int wrong;
    private int calls;
    private int run;
    private final Random random;
    private final RopeRanks x = new RopeRanks();
    private Model m = new Model();
    private final Model[] images = new Model[2];
    private BigInteger above = BigInteger.ZERO;
    private BigInteger below = BigInteger.ONE;

    private ModelTest(int run) {
        this.run = run;
        random = new Random(run);
    }

    public static void main(String[] args) {
        int wrong = 0;
        for (int run = 0; run < RUNS && wrong == 0; run++) {
            ModelTest test = new ModelTest(run);
            test.go();
            wrong += test.wrong;
        }
        System.out.println(wrong == 0 ? RUNS + " runs are as the model's" : wrong + " answers are not the model's");
        if (wrong != 0) {
            System.exit(1);
        }
    }

    private void due(String call, long got, long want) {
        calls++;
        if (got != want) {
            wrong++;
            System.out.println("run " + run + ", call " + calls + ": " + call + " answered " + got + ", the model " + want);
        }
    }

    private int any(int from, int to) {
        return from + random.nextInt(to - from + 1);
    }

    /** Mostly within, at times just beside. */
    private int about(int from, int to) {
        return random.nextInt(25) == 0 ? (random.nextBoolean() ? from - 1 : to + 1) : from > to ? from : any(from, to);
    }

    private int player() {
        return about(0, m.born.size() - 1);
    }

    private int system() {
        return about(0, 3);
    }

    private int year() {
        int last = m.meetings.isEmpty() ? 0 : m.meetings.get(m.meetings.size() - 1)[0];
        return random.nextInt(10) == 0 ? about(0, 99) : any(0, Math.min(99, last + 1));
    }

    private void go() {
        int players = any(2, 10);
        for (int p = 0; p < players; p++) {
            addPlayer();
        }
        int style = random.nextInt(4);
        if (random.nextBoolean()) {
            int wide = any(1, 1000);
            int even = any(0, 500);
            due("wide", x.wide(wide, even), 1);
            m.wide = wide;
            m.even = even;
        }
        for (int s = 0; s < 3; s++) {
            writeText(s, TEXTS[random.nextInt(TEXTS.length)]);
        }
        while (calls < 505 && wrong == 0) {
            int kind = random.nextInt(style == 0 ? 12 : 6);
            if (kind == 0 && (style != 1 || m.meetings.size() < 20)) {
                for (int i = 0; i < any(1, 5); i++) {
                    addMeeting(style);
                }
            } else if (kind == 1) {
                change();
            } else {
                ask();
            }
        }
        due("digest()", x.digest(), m.digest(above.longValue(), below.longValue()));
    }

    private void addPlayer() {
        int born = about(-60, 99);
        long want = born < -60 || born > 99 ? -2 : m.born.size() >= 10 ? -4 : m.born.size();
        due("player(" + born + ")", x.player(born), want);
        if (want >= 0) {
            m.born.add(born);
            m.moves.add(new int[8]);
        }
    }

    private void addMeeting(int style) {
        int last = m.meetings.isEmpty() ? 0 : m.meetings.get(m.meetings.size() - 1)[0];
        int year = random.nextInt(30) == 0 ? about(0, 99) : Math.min(99, last + any(0, 2));
        int a = player();
        int b = random.nextInt(30) == 0 ? player() : any(0, m.born.size() - 1);
        int end = about(0, 2);
        if (style == 2 && end != 1) {
            // mostly the lower PLAYER wins, so that there are few quarrels
            end = random.nextInt(12) == 0 ? end : a < b ? 2 : 0;
        }
        boolean given = random.nextInt(6) == 0;
        boolean bad = year < last || year > 99 || year < 0 || !m.isPlayer(a) || !m.isPlayer(b) || a == b || end < 0 || end > 2;
        long want = bad ? -2 : m.meetings.size() >= 60 ? -4 : m.meetings.size();
        due("meeting(" + year + ", " + a + ", " + b + ", " + end + ")", x.meeting(year, a, b, end, given), want);
        if (want >= 0) {
            m.meetings.add(new int[] {year, a, b, end, given ? 1 : 0, 0});
        }
    }

    private void writeText(int system, String text) {
        due("erase", x.erase(system), m.text[system].length());
        m.text[system] = "";
        for (int i = 0; i < text.length(); i++) {
            writeSign(system, text.charAt(i));
        }
    }

    private void writeSign(int system, int sign) {
        boolean bad = system < 0 || system > 3 || sign < 0 || sign > 127;
        long want = bad ? -2 : m.text[system].length() >= 50 ? -4 : m.text[system].length() + 1;
        due("write(" + system + ", " + sign + ")", x.write(system, sign), want);
        if (want >= 0) {
            m.text[system] += (char) sign;
        }
    }

    private String randomText(int depth) {
        StringBuilder text = new StringBuilder();
        int n = any(1, 3);
        for (int i = 0; i < n; i++) {
            if (i > 0) {
                text.append("+-*/<>=&|".charAt(random.nextInt(9)));
            }
            for (int k = random.nextInt(7); k > 4; k--) {
                text.append("!-".charAt(random.nextInt(2)));
            }
            if (random.nextInt(3) == 0 && depth < 4) {
                text.append('(').append(randomText(depth + 1)).append(')');
            } else if (random.nextInt(3) == 0) {
                text.append(random.nextInt(random.nextInt(20) == 0 ? 20000000 : 2000));
            } else {
                text.append("xoemyg".charAt(random.nextInt(6)));
            }
            if (random.nextInt(6) == 0) {
                text.append(' ');
            }
        }
        return text.toString();
    }

    private void change() {
        int p = player();
        int s = system();
        boolean badSystem = s < 0 || s > 3;
        switch (random.nextInt(11)) {
            case 0:
                addPlayer();
                break;
            case 1: {
                int i = about(0, m.meetings.size() - 1);
                int what = about(0, 1);
                boolean is = random.nextBoolean();
                boolean bad = i < 0 || i >= m.meetings.size() || what < 0 || what > 1;
                long want = bad ? -2 : (m.meetings.get(i)[4 + what] == 1) == is ? -3 : 1;
                due("mark(" + i + ", " + what + ")", x.mark(i, what, is), want);
                if (want == 1) {
                    m.meetings.get(i)[4 + what] = is ? 1 : 0;
                }
                break;
            }
            case 2: {
                int v = random.nextBoolean() ? about(0, 9999) : any(900, 1100);
                boolean bad = badSystem || v < 0 || v > 9999;
                due("first(" + s + ", " + v + ")", x.first(s, v), bad ? -2 : m.first[s]);
                if (!bad) {
                    m.first[s] = v;
                }
                break;
            }
            case 3:
                if (!badSystem && calls < 440) {
                    int open = random.nextInt(5) == 0 ? any(5, 9) : 0;
                    String text = "(".repeat(open) + randomText(0) + ")".repeat(open);
                    writeText(s, text.substring(0, Math.min(52, text.length())));
                }
                break;
            case 4:
                writeSign(s, random.nextInt(8) == 0 ? about(0, 127) : SIGNS.charAt(random.nextInt(SIGNS.length())));
                break;
            case 5: {
                int age = about(0, 159);
                int v = random.nextBoolean() ? about(-500, 500) : any(-20, 20);
                boolean bad = age < 0 || age > 159 || v < -500 || v > 500;
                due("shape(" + age + ", " + v + ")", x.shape(age, v), bad ? -100000 : m.shape[age]);
                if (!bad) {
                    m.shape[age] = v;
                }
                break;
            }
            case 6: {
                int wide = about(1, 1000);
                int even = about(0, 500);
                boolean bad = wide < 1 || wide > 1000 || even < 0 || even > 500;
                due("wide(" + wide + ", " + even + ")", x.wide(wide, even), bad ? -2 : 1);
                if (!bad) {
                    m.wide = wide;
                    m.even = even;
                }
                break;
            }
            case 7: {
                int hard = about(0, 3);
                int all = about(1, 99);
                int right = about(0, all);
                boolean bad = !m.isPlayer(p) || hard < 0 || hard > 3 || all < 1 || all > 99 || right < 0 || right > all;
                due("moves(" + p + ", " + hard + ", " + right + ", " + all + ")", x.moves(p, hard, right, all), bad ? -2 : 1);
                if (!bad) {
                    m.moves.get(p)[2 * hard] = right;
                    m.moves.get(p)[2 * hard + 1] = all;
                }
                break;
            }
            case 8: {
                int hard = about(0, 3);
                int v = about(1, 9);
                boolean bad = hard < 0 || hard > 3 || v < 1 || v > 9;
                due("weight(" + hard + ", " + v + ")", x.weight(hard, v), bad ? -2 : m.weight[hard]);
                if (!bad) {
                    m.weight[hard] = v;
                }
                break;
            }
            case 9: {
                int i = about(0, 1);
                due("image(" + i + ")", x.image(i), i < 0 || i > 1 ? -2 : 1);
                if (i == 0 || i == 1) {
                    images[i] = m.copy();
                }
                break;
            }
            default: {
                int i = about(0, 1);
                boolean bad = i < 0 || i > 1;
                long want = bad ? -2 : images[i] == null ? -3 : 1;
                if (bad || images[i] == null || random.nextInt(3) == 0) {
                    due("from(" + i + ")", x.from(i), want);
                    m = want == 1 ? images[i].copy() : m;
                }
                break;
            }
        }
    }

    private void ask() {
        int p = player();
        int q = player();
        int s = system();
        boolean badSystem = s < 0 || s > 3;
        boolean badPair = !m.isPlayer(p) || !m.isPlayer(q) || p == q;
        int year = year();
        boolean badYear = year < 0 || year > 99;
        switch (random.nextInt(24)) {
            case 0:
                due("fault(" + s + ")", x.fault(s), badSystem ? -2 : Text.fault(m.text[s]));
                break;
            case 1: {
                int n = about(0, m.meetings.size());
                boolean bad = badSystem || !m.isPlayer(p) || n < 0 || n > m.meetings.size();
                due("number(" + s + ", " + p + ", " + n + ")", x.number(s, p, n),
                    bad ? -100000 : m.history(s, m.meetings)[n][p]);
                break;
            }
            case 2:
                due("paid(" + s + ", " + year + ")", x.paid(s, year), badSystem || badYear ? -100000 : m.paid(s, year));
                break;
            case 3:
                askCreep(s, badSystem, year, badYear);
                break;
            case 4: {
                boolean bad = badSystem || badYear || !m.isPlayer(p);
                due("hiding(" + s + ", " + p + ", " + year + ")", x.hiding(s, p, year), bad ? -100000 : m.hiding(s, p, year));
                break;
            }
            case 5:
                due("foretold(" + s + ")", x.foretold(s), badSystem ? -2 : m.foretold(s));
                break;
            case 6:
                due("bestSystem()", x.bestSystem(), m.bestSystem());
                break;
            case 7:
                due("quarrel()", x.quarrel(), m.floyd(m.saying()) == null ? 1 : 0);
                break;
            case 8:
            case 9: {
                int what = about(0, 1);
                due("span(" + p + ", " + q + ", " + what + ")", x.span(p, q, what),
                    badPair || what < 0 || what > 1 ? -100000 : m.span(p, q, what));
                break;
            }
            case 10:
                due("fewest()", x.fewest(), m.fewest());
                break;
            case 11: {
                int who = random.nextBoolean() ? -1 : random.nextInt(9) == 0 ? -2 : p;
                due("island(" + who + ")", x.island(who), m.island(who));
                break;
            }
            case 12:
            case 13: {
                int what = about(-1, 4);
                boolean bad = !m.isPlayer(p) || !m.isPlayer(q) || what < -1;
                due("rope(" + p + ", " + q + ", " + what + ")", x.rope(p, q, what), bad ? -10 : m.rope(p, q, what));
                break;
            }
            case 14:
                due("bridges()", x.bridges(), m.bridges());
                break;
            case 15:
            case 16:
                askBest(s, badSystem);
                break;
            case 17:
                due("rounds()", x.rounds(), m.rounds());
                break;
            case 18: {
                int what = about(-1, m.born.size() - 1);
                due("ways(" + what + ")", x.ways(what), what != -1 && !m.isPlayer(what) ? -2 : m.ways(what));
                break;
            }
            case 19:
                askEven(p, q, badPair);
                break;
            case 20:
                due("looked()", x.looked(), m.looked());
                break;
            case 21:
                askShare(p);
                break;
            case 22: {
                int what = about(0, 3);
                due("count(" + what + ")", x.count(what), m.count(what));
                break;
            }
            default:
                due("digest()", x.digest(), m.digest(above.longValue(), below.longValue()));
                askPart();
                break;
        }
    }

    private void put(BigInteger a, BigInteger b) {
        BigInteger common = a.gcd(b);
        above = a.divide(common);
        below = b.divide(common);
        askPart();
    }

    private void put(long a, long b) {
        put(BigInteger.valueOf(a), BigInteger.valueOf(b));
    }

    private void askPart() {
        int what = about(0, 1);
        due("part(" + what + ")", x.part(what),
            what == 0 ? above.longValueExact() : what == 1 ? below.longValueExact() : -1000000000000L);
    }

    private void askCreep(int s, boolean badSystem, int year, boolean badYear) {
        int to = random.nextInt(4) == 0 ? year() : year + any(1, 6);
        boolean bad = badSystem || badYear || to < 0 || to > 99 || to <= year;
        long[] want = bad ? null : m.creep(s, year, to);
        due("creep(" + s + ", " + year + ", " + to + ")", x.creep(s, year, to), bad ? -2 : want == null ? 0 : 1);
        if (want != null) {
            put(want[0], want[1]);
        }
    }

    private void askBest(int s, boolean badSystem) {
        int question = about(0, 2);
        int k = random.nextInt(3) == 0 ? about(1, 9) : about(1, 3);
        boolean bad = badSystem || question < 0 || question > 2 || question == 1 && (k < 1 || k > 9);
        long[] want = bad ? new long[] {-2, 0, 0} : m.best(s, question, k);
        due("best(" + s + ", " + question + ", " + k + ")", x.best(s, question, k), want[0]);
        if (question == 2 && want[0] >= 0) {
            put(want[1], want[2]);
        }
    }

    private void askEven(int p, int q, boolean badPair) {
        int b = about(2, 9);
        int a = about(1, Math.max(1, b - 1));
        boolean bad = badPair || a < 1 || b > 9 || a >= b;
        int[] met = bad ? null : m.met(p, q);
        long want = bad ? -2 : met[0] < 1 || met[0] > 15 ? -3 : 1;
        due("even(" + p + ", " + q + ", " + a + ", " + b + ")", x.even(p, q, a, b), want);
        if (want == 1) {
            put(Model.chance(met[0], met[1], a, b), BigInteger.valueOf(b).pow(met[0]));
        }
    }

    private void askShare(int p) {
        int what = about(0, 1);
        boolean bad = !m.isPlayer(p) || what < 0 || what > 1;
        BigInteger[] want = bad ? null : m.share(p, what);
        due("share(" + p + ", " + what + ")", x.share(p, what), bad ? -2 : want == null ? -3 : 1);
        if (want != null) {
            put(want[0], want[1]);
        }
    }

    /** Texts: FAULT by a state machine, worth by splitting at the last sign that binds least. */
    private static final class Text {
        static int fault(String text) {
            boolean unit = true;
            List<Boolean> compared = new ArrayList<>(List.of(false));
            for (int i = 0; i < text.length(); i++) {
                char c = text.charAt(i);
                int deepest = compared.size() - 1;
                if (c == ' ') {
                    continue;
                }
                if (unit) {
                    if (Character.isDigit(c)) {
                        int end = i;
                        while (end < text.length() && Character.isDigit(text.charAt(end))) {
                            end++;
                        }
                        if (end - i > 6) {
                            return 10 * i + 2;
                        }
                        i = end - 1;
                        unit = false;
                    } else if ("xoemyg".indexOf(c) >= 0) {
                        unit = false;
                    } else if (c == '(') {
                        if (deepest == 8) {
                            return 10 * i + 3;
                        }
                        compared.add(false);
                    } else if (c != '!' && c != '-') {
                        return 10 * i + 1;
                    }
                } else if (c == ')' && deepest > 0) {
                    compared.remove(deepest);
                } else if ("|&".indexOf(c) >= 0) {
                    compared.set(deepest, false);
                    unit = true;
                } else if ("<>=".indexOf(c) >= 0 && !compared.get(deepest)) {
                    compared.set(deepest, true);
                    unit = true;
                } else if ("+-*/".indexOf(c) >= 0) {
                    unit = true;
                } else {
                    return 10 * i + 1;
                }
            }
            return unit || compared.size() > 1 ? 10 * text.length() + 1 : -1;
        }

        static long worth(String text, long... told) {
            String[] levels = {"|", "&", "<>=", "+-", "*/"};
            for (String level : levels) {
                int at = lastBetween(text, level);
                if (at >= 0) {
                    return between(worth(text.substring(0, at), told), text.charAt(at), worth(text.substring(at + 1), told));
                }
            }
            String unit = text.trim();
            char c = unit.charAt(0);
            if (c == '!') {
                return worth(unit.substring(1), told) == 0 ? 1 : 0;
            } else if (c == '-') {
                return -worth(unit.substring(1), told);
            } else if (c == '(') {
                return worth(unit.substring(1, unit.length() - 1), told);
            }
            int letter = "xoemyg".indexOf(c);
            return letter >= 0 ? told[letter] : Long.parseLong(unit);
        }

        private static int lastBetween(String text, String level) {
            int found = -1;
            int open = 0;
            boolean unit = true;
            for (int i = 0; i < text.length(); i++) {
                char c = text.charAt(i);
                if (c == ' ') {
                    continue;
                }
                open += c == '(' ? 1 : c == ')' ? -1 : 0;
                if (open == 0 && !unit && level.indexOf(c) >= 0) {
                    found = i;
                }
                unit = "|&<>=+-*/!(".indexOf(c) >= 0;
            }
            return found;
        }

        private static long between(long left, char c, long right) {
            switch (c) {
                case '|':
                    return left != 0 | right != 0 ? 1 : 0;
                case '&':
                    return left != 0 & right != 0 ? 1 : 0;
                case '<':
                    return left < right ? 1 : 0;
                case '>':
                    return left > right ? 1 : 0;
                case '=':
                    return left == right ? 1 : 0;
                case '+':
                    return left + right;
                case '-':
                    return left - right;
                case '*':
                    return left * right;
                default:
                    return right == 0 ? 0 : BigInteger.valueOf(left).divide(BigInteger.valueOf(right)).longValue();
            }
        }
    }

    /** A MEETING is a row: year, a, b, end, given, doubted. */
    private static final class Model {
        List<Integer> born = new ArrayList<>();
        List<int[]> moves = new ArrayList<>();
        List<int[]> meetings = new ArrayList<>();
        int[] first = {1000, 1000, 1000, 1000};
        String[] text = {"", "", "", ""};
        int[] shape = new int[160];
        int wide = 400;
        int even = 50;
        int[] weight = {1, 1, 1, 1};

        Model copy() {
            Model c = new Model();
            c.born = new ArrayList<>(born);
            for (int[] row : moves) {
                c.moves.add(row.clone());
            }
            for (int[] row : meetings) {
                c.meetings.add(row.clone());
            }
            c.first = first.clone();
            c.text = text.clone();
            c.shape = shape.clone();
            c.wide = wide;
            c.even = even;
            c.weight = weight.clone();
            return c;
        }

        boolean isPlayer(int p) {
            return p >= 0 && p < born.size();
        }

        int count(int what) {
            if (what < 0 || what > 3) {
                return -2;
            }
            int n = 0;
            for (int[] row : meetings) {
                n += what == 2 ? row[4] : what == 3 ? row[5] : 1;
            }
            return what == 0 ? born.size() : n;
        }

        /** Numbers of all PLAYERS behind 0, 1, .. of these MEETINGS. */
        int[][] history(int system, List<int[]> rows) {
            boolean flawed = Text.fault(text[system]) != -1;
            int[][] numbers = new int[rows.size() + 1][born.size()];
            java.util.Arrays.fill(numbers[0], first[system]);
            for (int i = 0; i < rows.size(); i++) {
                int[] row = rows.get(i);
                numbers[i + 1] = numbers[i].clone();
                for (int side = 0; side < 2 && !flawed; side++) {
                    int him = row[1 + side];
                    int other = row[2 - side];
                    int met = 0;
                    int ago = 0;
                    for (int k = 0; k < i; k++) {
                        if (rows.get(k)[1] == him || rows.get(k)[2] == him) {
                            met++;
                            ago = row[0] - rows.get(k)[0];
                        }
                    }
                    long worth = Text.worth(text[system], numbers[i][him], numbers[i][other],
                        side == 0 ? row[3] : 2 - row[3], met, ago, row[4]);
                    numbers[i + 1][him] += (int) (worth < -500 ? -500 : worth > 500 ? 500 : worth);
                }
            }
            return numbers;
        }

        int paid(int system, int year) {
            int[][] numbers = history(system, meetings);
            int sum = 0;
            for (int i = 0; i < meetings.size(); i++) {
                for (int p = 0; p < born.size() && meetings.get(i)[0] == year; p++) {
                    sum += numbers[i + 1][p] - numbers[i][p];
                }
            }
            return sum;
        }

        boolean metIn(int p, int year) {
            for (int[] row : meetings) {
                if (row[0] == year && (row[1] == p || row[2] == p)) {
                    return true;
                }
            }
            return false;
        }

        int behindYear(int year) {
            int n = 0;
            for (int[] row : meetings) {
                n += row[0] <= year ? 1 : 0;
            }
            return n;
        }

        long[] creep(int system, int from, int to) {
            int[][] numbers = history(system, meetings);
            long sum = 0;
            long n = 0;
            for (int p = 0; p < born.size(); p++) {
                if (metIn(p, from) && metIn(p, to)) {
                    sum += numbers[behindYear(to)][p] - numbers[behindYear(from)][p];
                    n++;
                }
            }
            return n == 0 ? null : new long[] {sum, n};
        }

        int hiding(int system, int p, int year) {
            List<int[]> rest = new ArrayList<>();
            for (int[] row : meetings) {
                if (row[0] != year || row[1] != p && row[2] != p) {
                    rest.add(row);
                }
            }
            return history(system, rest)[rest.size()][p] - history(system, meetings)[meetings.size()][p];
        }

        int foretold(int system) {
            int[][] numbers = history(system, meetings);
            int sum = 0;
            for (int i = 0; i < meetings.size(); i++) {
                int[] row = meetings.get(i);
                int a = numbers[i][row[1]];
                int b = numbers[i][row[2]];
                if (row[4] == 0) {
                    sum += row[3] == 1 && Math.abs(a - b) <= 50 ? 1 : 0;
                    sum += row[3] == 2 && a > b || row[3] == 0 && b > a ? 2 : 0;
                }
            }
            return sum;
        }

        int bestSystem() {
            int best = -1;
            for (int s = 3; s >= 0; s--) {
                if (Text.fault(text[s]) == -1 && (best == -1 || foretold(s) >= foretold(best))) {
                    best = s;
                }
            }
            return best;
        }

        List<Integer> saying() {
            List<Integer> list = new ArrayList<>();
            for (int i = 0; i < meetings.size(); i++) {
                if (meetings.get(i)[4] == 0 && meetings.get(i)[5] == 0) {
                    list.add(i);
                }
            }
            return list;
        }

        int shapeOf(int p, int year) {
            int age = year - born.get(p);
            return shape[age < 0 ? 0 : age > 159 ? 159 : age];
        }

        /** far[p][q]: p less q is at most so much (10^9: no bound); null with a QUARREL. */
        long[][] floyd(List<Integer> which) {
            int n = born.size();
            long[][] far = new long[n][n];
            for (int p = 0; p < n; p++) {
                java.util.Arrays.fill(far[p], 1000000000L);
                far[p][p] = 0;
            }
            for (int i : which) {
                int[] row = meetings.get(i);
                int winner = row[3] == 0 ? row[2] : row[1];
                int loser = row[3] == 0 ? row[1] : row[2];
                long by = shapeOf(winner, row[0]) - shapeOf(loser, row[0]);
                far[winner][loser] = Math.min(far[winner][loser], (row[3] == 1 ? even : wide) - by);
                far[loser][winner] = Math.min(far[loser][winner], (row[3] == 1 ? even : -1) + by);
            }
            for (int k = 0; k < n; k++) {
                for (int p = 0; p < n; p++) {
                    for (int q = 0; q < n; q++) {
                        if (far[p][k] < 1000000000L && far[k][q] < 1000000000L) {
                            far[p][q] = Math.min(far[p][q], far[p][k] + far[k][q]);
                        }
                    }
                }
            }
            for (int p = 0; p < n; p++) {
                if (far[p][p] < 0) {
                    return null;
                }
            }
            return far;
        }

        long span(int p, int q, int what) {
            long[][] far = floyd(saying());
            if (far == null) {
                return -200000;
            }
            if (far[p][q] == 1000000000L) {
                return -300000;
            }
            return what == 0 ? -far[q][p] : far[p][q];
        }

        private boolean agreeWithout(List<Integer> saying, long out) {
            List<Integer> rest = new ArrayList<>();
            for (int i : saying) {
                if ((out >> i & 1) == 0) {
                    rest.add(i);
                }
            }
            return floyd(rest) != null;
        }

        /** Tries all sets; sets of a size are gone through from the least, as their greatest bits grow. */
        long fewest() {
            List<Integer> saying = saying();
            if (agreeWithout(saying, 0)) {
                return 0;
            }
            for (int i : saying) {
                if (agreeWithout(saying, 1L << i)) {
                    return 1L << i;
                }
            }
            for (int i : saying) {
                for (int j = 0; saying.get(j) < i; j++) {
                    long set = 1L << i | 1L << saying.get(j);
                    if (agreeWithout(saying, set)) {
                        return set;
                    }
                }
            }
            for (int i : saying) {
                for (int j = 0; saying.get(j) < i; j++) {
                    for (int k = 0; k < j; k++) {
                        long set = 1L << i | 1L << saying.get(j) | 1L << saying.get(k);
                        if (agreeWithout(saying, set)) {
                            return set;
                        }
                    }
                }
            }
            return -5;
        }

        boolean joined(int p, int q, int without) {
            List<Integer> which = saying();
            which.remove(Integer.valueOf(without));
            List<Integer> seen = new ArrayList<>(List.of(p));
            for (int at = 0; at < seen.size(); at++) {
                for (int i : which) {
                    int[] row = meetings.get(i);
                    int next = row[1] == seen.get(at) ? row[2] : row[2] == seen.get(at) ? row[1] : p;
                    if (!seen.contains(next)) {
                        seen.add(next);
                    }
                }
            }
            return seen.contains(q);
        }

        int island(int who) {
            if (who == -1) {
                int n = 0;
                for (int p = 0; p < born.size(); p++) {
                    n += island(p) == p ? 1 : 0;
                }
                return n;
            }
            for (int q = 0; q < born.size() && isPlayer(who); q++) {
                if (joined(who, q, -1)) {
                    return q;
                }
            }
            return -2;
        }

        long bridges() {
            long bits = 0;
            for (int i : saying()) {
                bits |= joined(meetings.get(i)[1], meetings.get(i)[2], i) ? 0 : 1L << i;
            }
            return bits;
        }

        /** All rows of PLAYERS of a length, in order: the first that ends at q. */
        private List<Integer> path(int p, int q, int length, List<Integer> row) {
            row.add(p);
            if (length == 0 && p == q) {
                return row;
            }
            for (int next = 0; next < born.size() && length > 0; next++) {
                if (!row.contains(next) && meetingOf(p, next) >= 0) {
                    List<Integer> whole = path(next, q, length - 1, row);
                    if (whole != null) {
                        return whole;
                    }
                }
            }
            row.remove(row.size() - 1);
            return null;
        }

        private int meetingOf(int p, int q) {
            for (int i : saying()) {
                int[] row = meetings.get(i);
                if (row[1] == p && row[2] == q || row[1] == q && row[2] == p) {
                    return i;
                }
            }
            return -1;
        }

        int rope(int p, int q, int what) {
            if (!joined(p, q, -1)) {
                return -5;
            }
            for (int length = 0; length < 10; length++) {
                List<Integer> row = path(p, q, length, new ArrayList<>());
                if (row != null) {
                    return what == -1 ? length : what < length ? meetingOf(row.get(what), row.get(what + 1)) : -5;
                }
            }
            return -5;
        }

        /** The PLAYER, and his worth as a fraction. */
        long[] best(int system, int question, int k) {
            int[][] numbers = history(system, meetings);
            long[] best = {-1, 0, 1};
            for (int p = born.size() - 1; p >= 0; p--) {
                List<Integer> ends = new ArrayList<>();
                for (int year = 0; year < 100; year++) {
                    if (!metIn(p, year)) {
                        continue;
                    }
                    int[] then = numbers[behindYear(year)];
                    ends.add(then[p]);
                    if (question == 0) {
                        offer(best, p, then[p], 1);
                    } else if (question == 2) {
                        long sum = 0;
                        long n = 0;
                        for (int q = 0; q < born.size(); q++) {
                            sum += metIn(q, year) ? then[q] : 0;
                            n += metIn(q, year) ? 1 : 0;
                        }
                        offer(best, p, then[p] * n - sum, n);
                    }
                }
                for (int i = 0; question == 1 && i + k <= ends.size(); i++) {
                    offer(best, p, java.util.Collections.min(ends.subList(i, i + k)), 1);
                }
            }
            return best;
        }

        /** PLAYERS come from the last to the first, so like ones take the place. */
        private static void offer(long[] best, int p, long above, long below) {
            if (best[0] == -1 || above * best[2] >= best[1] * below) {
                best[0] = p;
                best[1] = above;
                best[2] = below;
            }
        }

        private boolean beat(int p, int q) {
            for (int[] row : meetings) {
                if (row[4] == 0 && (row[3] == 2 && row[1] == p && row[2] == q || row[3] == 0 && row[2] == p && row[1] == q)) {
                    return true;
                }
            }
            return false;
        }

        int rounds() {
            int n = 0;
            for (int a = 0; a < born.size(); a++) {
                for (int b = 0; b < born.size(); b++) {
                    for (int c = 0; c < born.size(); c++) {
                        n += beat(a, b) && beat(b, c) && beat(c, a) ? 1 : 0;
                    }
                }
            }
            return n / 3;
        }

        int ways(int what) {
            int n = born.size();
            int rows = (int) Math.round(Math.pow(3, n));
            int most = -1;
            int bestRow = 0;
            int[] way = new int[n];
            for (int row = 0; row < rows; row++) {
                int rest = row;
                for (int p = n - 1; p >= 0; p--) {
                    way[p] = rest % 3;
                    rest /= 3;
                }
                int won = 0;
                for (int[] m : meetings) {
                    if (m[4] == 0 && m[3] != 1) {
                        int winner = way[m[3] == 2 ? m[1] : m[2]];
                        int loser = way[m[3] == 2 ? m[2] : m[1]];
                        won += (winner + 1) % 3 == loser ? 1 : 0;
                    }
                }
                if (won > most) {
                    most = won;
                    bestRow = row;
                }
            }
            return what == -1 ? most : bestRow / (int) Math.round(Math.pow(3, n - 1 - what)) % 3;
        }

        int[] met(int p, int q) {
            int[] met = new int[2];
            for (int[] row : meetings) {
                if (row[1] == p && row[2] == q || row[1] == q && row[2] == p) {
                    met[0]++;
                    met[1] += row[3] == 1 ? 1 : 0;
                }
            }
            return met;
        }

        static BigInteger chance(int n, int d, int a, int b) {
            BigInteger[] cases = {BigInteger.ONE};
            for (int i = 0; i < n; i++) {
                BigInteger[] more = new BigInteger[cases.length + 1];
                java.util.Arrays.fill(more, BigInteger.ZERO);
                for (int k = 0; k < cases.length; k++) {
                    more[k] = more[k].add(cases[k].multiply(BigInteger.valueOf(b - a)));
                    more[k + 1] = more[k + 1].add(cases[k].multiply(BigInteger.valueOf(a)));
                }
                cases = more;
            }
            BigInteger sum = BigInteger.ZERO;
            for (int k = d; k <= n; k++) {
                sum = sum.add(cases[k]);
            }
            return sum;
        }

        int looked() {
            int n = 0;
            for (int p = 0; p < born.size(); p++) {
                for (int q = 0; q < p; q++) {
                    int met = met(p, q)[0];
                    n += met >= 1 && met <= 15 ? 1 : 0;
                }
            }
            return n;
        }

        BigInteger[] share(int p, int what) {
            int[] row = moves.get(p);
            BigInteger above = BigInteger.ZERO;
            BigInteger below = what == 0 ? BigInteger.ZERO : BigInteger.ONE;
            int weights = 0;
            for (int c = 0; c < 4; c++) {
                BigInteger right = BigInteger.valueOf(row[2 * c]);
                BigInteger all = BigInteger.valueOf(row[2 * c + 1]);
                if (row[2 * c + 1] == 0) {
                    continue;
                }
                weights += weight[c];
                if (what == 0) {
                    above = above.add(right);
                    below = below.add(all);
                } else {
                    above = above.multiply(all).add(below.multiply(right).multiply(BigInteger.valueOf(weight[c])));
                    below = below.multiply(all);
                }
            }
            if (weights == 0) {
                return null;
            }
            return new BigInteger[] {above, what == 0 ? below : below.multiply(BigInteger.valueOf(weights))};
        }

        long digest(long above, long below) {
            List<Long> v = new ArrayList<>();
            for (int what = 0; what < 4; what++) {
                v.add((long) count(what));
            }
            for (int p = 0; p < born.size(); p++) {
                v.add((long) born.get(p));
                for (int part : moves.get(p)) {
                    v.add((long) part);
                }
            }
            for (int[] row : meetings) {
                for (int part : row) {
                    v.add((long) part);
                }
            }
            for (int s = 0; s < 4; s++) {
                v.add((long) first[s]);
                v.add((long) text[s].length());
                for (char c : text[s].toCharArray()) {
                    v.add((long) c);
                }
            }
            for (int age : shape) {
                v.add((long) age);
            }
            v.add((long) wide);
            v.add((long) even);
            for (int w : weight) {
                v.add((long) w);
            }
            v.add(above);
            v.add(below);
            long h = 449;
            for (long part : v) {
                h = 31 * h + part;
            }
            return h;
        }
    }
}
