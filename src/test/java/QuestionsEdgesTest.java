/** Boundary cases that the third part of 'Terms' names, and promises 1 and 23 to 35: each sentence with a run of its own. */
public final class QuestionsEdgesTest {
    private static final Runs RUNS = new Runs();
    /** All that digest() tells of the SYSTEMS and behind them, where nothing has been told. */
    private static final long[] NEW_SYSTEMS = {1000, 0, 1000, 0, 1000, 0, 1000, 0};
    private static final long[] NEW_REST = {400, 50, 1, 1, 1, 1, 0, 1};

    public static void main(String[] args) {
        newObject();
        bestRefused();
        bestOfAll();
        bestOfRows();
        bestOfLongRows();
        bestAboveTheMean();
        rounds();
        roundsOfMany();
        ways();
        waysOfTen();
        even();
        evenOdds();
        evenAtMost();
        looked();
        lookedAtMost();
        moves();
        weights();
        shares();
        sharesAtMost();
        fractions();
        images();
        imagesKeep();
        counts();
        digests();
        calls();
        RUNS.end();
    }

    private static void told(String sentence, String script) {
        RUNS.told(sentence, script);
    }

    private static void newObject() {
        told("A new object: nothing is there", """
            count(0) = 0; count(1) = 0; count(2) = 0; count(3) = 0
            fraction 0/1
            quarrel() = 0; fewest() = 0; island(NONE) = 0; bridges() = 0; rounds() = 0; ways(NONE) = 0; looked() = 0
            bestSystem() = NONE; best(0, 0, 0) = NONE; best(3, 1, 9) = NONE; best(1, 2, 0) = NONE
            from(0) refused NO
            from(1) refused NO
            fraction 0/1
            """);
        StringBuilder script = new StringBuilder();
        for (int age = 0; age < 160; age++) {
            script.append("shape(").append(age).append(", 0) = 0\n");
        }
        for (int i = 0; i < 4; i++) {
            script.append(String.format("first(%d, 1000) = 1000; erase(%d) = 0; weight(%d, 1) = 1; foretold(%d) = 0%n", i, i, i, i));
        }
        told("A new object: what is so at first", script.toString());
    }

    private static void bestRefused() {
        told("BEST: a question 0 .. 2, k 1 .. 9 (looked at for 1 alone)", """
            players 2; meeting(0, 0, 1, 2, false)
            best(0, -1, 1) refused BAD
            best(0, 3, 1) refused BAD
            best(0, 1, 0) refused BAD
            best(0, 1, 10) refused BAD
            best(0, 1, -2147483648) refused BAD
            best(0, 1, 2147483647) refused BAD
            best(0, 1, 1) = 0
            best(0, 1, 9) = NONE
            best(0, 0, 0) = 0; best(0, 0, 10) = 0; best(0, 0, -2147483648) = 0
            best(0, 2, 0) = 0; best(0, 2, 10) = 0; best(0, 2, 2147483647) = 0
            """);
        told("BEST: NONE leaves THE FRACTION", """
            players 2; moves(0, 0, 1, 3); share(0, 0) = 1
            best(0, 0, 0) = NONE; best(0, 1, 1) = NONE; best(0, 2, 0) = NONE
            fraction 1/3
            """);
        told("BEST: for 2 THE FRACTION is by how much, for 0 and 1 it stays", """
            players 2; text 0 'e'; moves(0, 0, 1, 3); share(0, 0) = 1
            meeting(0, 0, 1, 2, false)
            best(0, 0, 0) = 0; best(0, 1, 1) = 0
            fraction 1/3
            best(0, 2, 0) = 0
            fraction 1/1
            best(0, 3, 0) refused BAD
            fraction 1/1
            """);
    }

    private static void bestOfAll() {
        told("0: in which he met: who never met is not asked, though his number is greater", """
            players 3; text 0 '-5'; meeting(4, 2, 1, 2, false)
            best(0, 0, 0) = 1; best(0, 1, 1) = 1; best(0, 2, 0) = 1
            fraction 0/1
            """);
        told("0: at the end of any YEAR, of like ones the least PLAYER", """
            players 2; text 0 '(e-1)*10'
            meetings 3 (1, 1, 0, 2, false)
            meetings 5 (2, 0, 1, 2, false)
            best(0, 0, 0) = 1
            meeting(3, 0, 1, 2, false)
            best(0, 0, 0) = 0
            meetings 6 (4, 0, 1, 0, false)
            best(0, 0, 0) = 0
            meeting(5, 0, 1, 0, false)
            best(0, 0, 0) = 1
            """);
        told("0: behind all MEETINGS of it, not within", """
            players 3; text 0 '(e-1)*10'
            meetings 4 (1, 2, 1, 2, false); meetings 3 (1, 2, 1, 0, false)
            meetings 2 (2, 0, 1, 2, false)
            best(0, 0, 0) = 0
            """);
        told("0: the last YEAR and the YEAR 0 count", """
            players 2; text 0 '(e-1)*10'
            meeting(0, 1, 0, 2, false)
            best(0, 0, 0) = 1
            meetings 3 (99, 0, 1, 2, false)
            best(0, 0, 0) = 0
            """);
    }

    private static void bestOfRows() {
        told("1: YEARS one behind the other of his, not any", """
            players 4; text 0 '(e-1)*(10-g*5)'
            meeting(1, 0, 1, 2, false); meeting(1, 2, 3, 2, true)
            meeting(2, 0, 1, 0, false); meeting(2, 2, 3, 1, false)
            meeting(9, 0, 1, 2, false)
            best(0, 1, 1) = 0; best(0, 1, 2) = 2; best(0, 1, 3) = 0; best(0, 1, 4) = NONE
            """);
        told("1: YEARS in which others met are none of his", """
            players 4; text 0 '(e-1)*10'
            meeting(1, 0, 1, 2, false); meeting(2, 2, 3, 2, false); meeting(3, 2, 3, 0, false); meeting(50, 0, 1, 1, false)
            best(0, 1, 2) = 0
            meeting(50, 2, 3, 1, false)
            best(0, 1, 3) = 2
            """);
        told("1: a YEAR of many MEETINGS is one", """
            players 2; text 0 'e'
            meetings 9 (5, 0, 1, 2, false)
            best(0, 1, 1) = 0; best(0, 1, 2) = NONE
            meeting(6, 0, 1, 2, false)
            best(0, 1, 2) = 0; best(0, 1, 3) = NONE
            """);
        told("1: of like ones the least PLAYER", """
            players 4; text 0 '(e-1)*10'
            meeting(1, 3, 2, 2, false); meeting(1, 1, 0, 2, false)
            best(0, 1, 1) = 1
            meeting(2, 3, 2, 1, false)
            best(0, 1, 2) = 3
            meeting(2, 1, 0, 1, false)
            best(0, 1, 2) = 1
            """);
    }

    private static void bestOfLongRows() {
        StringBuilder script = new StringBuilder("players 2; text 0 '(e-1)*10'\n");
        for (int year = 1; year <= 8; year++) {
            script.append("meeting(").append(year).append(", 1, 0, 2, false)\n");
        }
        told("1: k 1 .. 9: none with fewer", script + """
            best(0, 1, 8) = 1; best(0, 1, 9) = NONE
            meeting(9, 1, 0, 2, false)
            best(0, 1, 9) = 1; best(0, 1, 10) refused BAD
            """);
        told("1: rows of nine among more YEARS: the first one goes", script + """
            meetings 26 (9, 1, 0, 0, false)
            best(0, 1, 9) = 0
            meeting(10, 1, 0, 1, false)
            best(0, 1, 9) = 0; best(0, 1, 8) = 1; best(0, 1, 2) = 0
            meeting(11, 1, 0, 1, false); meeting(12, 1, 0, 1, false); meeting(13, 1, 0, 1, false)
            best(0, 1, 5) = 0; best(0, 1, 6) = 1; best(0, 1, 9) = 0
            """);
    }

    private static void bestAboveTheMean() {
        told("2: above the mean of all who met in it: a fraction", """
            players 4; text 0 'e'
            meeting(1, 1, 2, 2, false); meeting(1, 3, 2, 1, false)
            best(0, 2, 0) = 1
            fraction 2/3
            """);
        told("2: by most, in any YEAR, of like ones the least PLAYER", """
            players 4; text 0 '(e-1)*10'
            meeting(1, 3, 2, 2, false)
            best(0, 2, 0) = 3
            fraction 10/1
            meeting(2, 1, 0, 2, false)
            best(0, 2, 0) = 1
            fraction 10/1
            meetings 2 (3, 0, 1, 2, false)
            best(0, 2, 0) = 0
            fraction 10/1
            meeting(4, 3, 2, 2, false)
            best(0, 2, 0) = 3
            fraction 20/1
            """);
        told("2: fractions are compared as they are", """
            players 7; text 0 'e*e*e'
            meeting(1, 0, 1, 2, false); meeting(1, 2, 1, 1, false)
            best(0, 2, 0) = 0
            fraction 14/3
            meeting(2, 3, 4, 2, false); meeting(2, 5, 4, 1, false); meeting(2, 5, 6, 1, false)
            best(0, 2, 0) = 3
            fraction 5/1
            """);
        told("2: all ten in one YEAR", """
            players 10; text 0 'e'
            meeting(9, 0, 1, 2, false); meeting(9, 2, 3, 2, false); meeting(9, 4, 5, 2, false); meeting(9, 6, 7, 2, false)
            meeting(9, 8, 9, 2, false); meeting(9, 9, 8, 2, false); meeting(9, 9, 0, 1, false)
            best(0, 2, 0) = 0
            fraction 8/5
            """);
        told("2: the greatest numbers that may be", """
            players 2; first(0, 9999) = 1000; text 0 '(e-1)*500'
            meetings 60 (9, 1, 0, 2, false)
            best(0, 2, 0) = 1
            fraction 30000/1
            """);
    }

    private static void rounds() {
        told("ROUNDS: threes (a least): each once; the other way around is another", """
            players 3
            meeting(0, 1, 2, 2, false); meeting(0, 2, 0, 2, false)
            rounds() = 0
            meeting(0, 0, 1, 2, false)
            rounds() = 1
            meetings 2 (0, 0, 1, 2, false)
            rounds() = 1
            meeting(0, 1, 0, 2, false); meeting(0, 2, 1, 2, false)
            rounds() = 1
            meeting(0, 2, 0, 0, false)
            rounds() = 2
            """);
        told("ROUNDS: END 0 is a win of b; END 1 is none", """
            players 3
            meeting(0, 1, 0, 0, false); meeting(0, 2, 1, 0, false); meeting(0, 0, 2, 1, false)
            rounds() = 0
            meeting(0, 0, 2, 0, false)
            rounds() = 1
            """);
        told("ROUNDS: in some MEETINGS not GIVEN; DOUBTED ones too", """
            players 3
            meeting(0, 0, 1, 2, false); meeting(0, 1, 2, 2, false); meeting(0, 2, 0, 2, true)
            rounds() = 0
            mark(2, 0, false); mark(0, 1, true)
            rounds() = 1
            mark(0, 0, true)
            rounds() = 0
            meeting(0, 0, 1, 2, false)
            rounds() = 1
            """);
        told("ROUNDS: four who beat one another are no three", """
            players 4
            meeting(0, 0, 1, 2, false); meeting(0, 1, 2, 2, false); meeting(0, 2, 3, 2, false); meeting(0, 3, 0, 2, false)
            rounds() = 0
            """);
    }

    private static void roundsOfMany() {
        StringBuilder script = new StringBuilder("players 10\n");
        for (int p = 0; p < 10; p++) {
            for (int d = 1; d <= (p < 5 ? 5 : 4); d++) {
                script.append(String.format("meeting(0, %d, %d, 2, false)%n", p, (p + d) % 10));
            }
        }
        // of 120 threes those are none in which one beat both others: 5 * 10 and 5 * 6
        told("ROUNDS of all ten, each with each", script + "count(1) = 45; rounds() = 40");
        StringBuilder both = new StringBuilder("players 6\n");
        for (int p = 0; p < 6; p++) {
            for (int q = 0; q < 6; q++) {
                both.append(p == q ? "" : String.format("meeting(0, %d, %d, 2, false)%n", p, q));
            }
        }
        told("ROUNDS of six, each beat each", both + "rounds() = 40");
    }

    private static void ways() {
        told("WAYS: how many MEETINGS (what = NONE), the way of PLAYER what. BAD", """
            ways(NONE) = 0
            ways(0) refused BAD
            ways(-2) refused BAD
            player(0)
            ways(NONE) = 0; ways(0) = 0
            ways(1) refused BAD
            ways(-2) refused BAD
            """);
        told("each way beats the next one, 2 beats 0", """
            players 3
            meeting(0, 0, 1, 2, false)
            ways(NONE) = 1; ways(0) = 0; ways(1) = 1; ways(2) = 0
            meeting(0, 1, 2, 2, false)
            ways(NONE) = 2; ways(0) = 0; ways(1) = 1; ways(2) = 2
            meeting(0, 2, 0, 2, false)
            ways(NONE) = 3; ways(0) = 0; ways(1) = 1; ways(2) = 2
            new
            players 3
            meeting(0, 0, 1, 0, false)
            ways(NONE) = 1; ways(0) = 0; ways(1) = 2; ways(2) = 0
            """);
        told("the first row: of like ones", """
            players 2
            meeting(0, 1, 0, 2, false)
            ways(0) = 0; ways(1) = 2
            meeting(0, 0, 1, 2, false)
            ways(NONE) = 1; ways(0) = 0; ways(1) = 1
            meeting(0, 1, 0, 2, false)
            ways(NONE) = 2; ways(0) = 0; ways(1) = 2
            """);
        told("MEETINGS not GIVEN, and won; DOUBTED ones too", """
            players 2
            meetings 2 (0, 1, 0, 2, true); meeting(0, 0, 1, 1, false)
            ways(NONE) = 0; ways(0) = 0; ways(1) = 0
            mark(0, 0, false); mark(0, 1, true)
            ways(NONE) = 1; ways(1) = 2
            mark(1, 0, false)
            ways(NONE) = 2
            """);
    }

    private static void waysOfTen() {
        StringBuilder lost = new StringBuilder("players 10\n");
        StringBuilder won = new StringBuilder("players 10\n");
        StringBuilder last = new StringBuilder("players 10\n");
        for (int p = 1; p < 10; p++) {
            lost.append(String.format("meeting(0, 0, %d, 0, false)%n", p));
            won.append(String.format("meeting(0, 0, %d, 2, false)%n", p));
            last.append(String.format("meeting(0, 9, %d, 2, false)%n", p - 1));
        }
        told("WAYS of ten: one lost to all", lost + "ways(NONE) = 9; ways(0) = 0; ways(1) = 2; ways(9) = 2; ways(10) refused BAD");
        told("WAYS of ten: one beat all", won + "ways(NONE) = 9; ways(0) = 0; ways(1) = 1; ways(9) = 1");
        told("WAYS of ten: the last one beat all", last + "ways(NONE) = 9; ways(0) = 0; ways(8) = 0; ways(9) = 2");
        told("WAYS: all sixty", """
            players 2; meetings 60 (0, 1, 0, 2, false)
            ways(NONE) = 60; ways(0) = 0; ways(1) = 2
            """);
    }

    private static void even() {
        told("EVEN ONES: n 1 .. 15. NO: none or above 15", """
            players 3
            even(0, 1, 1, 2) refused NO
            meeting(0, 2, 1, 1, false)
            even(0, 1, 1, 2) refused NO
            meeting(0, 0, 1, 1, false)
            even(0, 1, 1, 2) = 1
            fraction 1/2
            meetings 14 (0, 1, 0, 1, false)
            even(0, 1, 1, 2) = 1
            fraction 1/32768
            even(1, 0, 1, 2) = 1
            fraction 1/32768
            meeting(0, 1, 0, 2, false)
            even(0, 1, 1, 2) refused NO
            even(1, 0, 1, 2) refused NO
            fraction 1/32768
            even(1, 2, 1, 2) = 1
            fraction 1/2
            """);
        told("EVEN ONES: d or more: of none, of all, between", """
            players 2; meeting(0, 0, 1, 2, false)
            even(0, 1, 2, 3) = 1
            fraction 1/1
            meeting(0, 1, 0, 1, true)
            even(0, 1, 2, 3) = 1
            fraction 8/9
            meeting(0, 1, 0, 1, false); mark(2, 1, true)
            even(0, 1, 2, 3) = 1
            fraction 20/27
            """);
    }

    private static void evenOdds() {
        told("odds a by b (0 < a < b <= 9). BAD: alike, too", """
            players 3; meeting(0, 0, 1, 1, false)
            even(0, 1, 0, 9) refused BAD
            even(0, 1, -1, 9) refused BAD
            even(0, 1, 1, 1) refused BAD
            even(0, 1, 2, 1) refused BAD
            even(0, 1, 9, 9) refused BAD
            even(0, 1, 1, 10) refused BAD
            even(0, 1, 9, 10) refused BAD
            even(0, 1, -2, -1) refused BAD
            even(0, 0, 1, 2) refused BAD
            even(-1, 0, 1, 2) refused BAD
            even(0, -1, 1, 2) refused BAD
            even(3, 0, 1, 2) refused BAD
            even(0, 3, 1, 2) refused BAD
            even(0, 1, 1, 9) = 1
            fraction 1/9
            even(0, 1, 8, 9) = 1
            fraction 8/9
            even(0, 1, 1, 2) = 1
            fraction 1/2
            even(0, 1, 6, 9) = 1
            fraction 2/3
            """);
        told("EVEN ONES: BAD ahead of NO", """
            players 3; meetings 16 (0, 0, 1, 1, false)
            even(0, 1, 0, 2) refused BAD
            even(0, 2, 2, 2) refused BAD
            even(2, 2, 1, 2) refused BAD
            even(0, 1, 1, 10) refused BAD
            even(0, 1, 1, 2) refused NO
            even(0, 2, 1, 2) refused NO
            """);
    }

    private static void evenAtMost() {
        long all = 205891132094649L;
        told("EVEN ONES: the greatest numbers: 15 of 15", "players 2; meetings 15 (0, 0, 1, 1, false)\n"
            + "even(0, 1, 1, 9) = 1; fraction 1/" + all + "\neven(0, 1, 8, 9) = 1; fraction " + (1L << 45) + "/" + all);
        told("EVEN ONES: the greatest numbers: 1 of 15", "players 2; meetings 14 (0, 0, 1, 2, false)\n"
            + "meeting(0, 0, 1, 1, false); even(0, 1, 8, 9) = 1; fraction " + (all - 1) + "/" + all
            + "\neven(0, 1, 1, 9) = 1; fraction " + (all - (1L << 45)) + "/" + all);
        told("EVEN ONES: 0 of 15 is sure", "players 2; meetings 15 (0, 0, 1, 2, false); even(0, 1, 8, 9) = 1; fraction 1/1");
    }

    private static void looked() {
        told("LOOKED AT: how many pairs of PLAYERS met so (n 1 .. 15)", """
            looked() = 0
            players 3
            looked() = 0
            meeting(0, 1, 0, 2, true)
            looked() = 1
            meetings 13 (0, 0, 1, 1, false)
            looked() = 1
            meeting(0, 2, 1, 1, false); mark(14, 1, true)
            looked() = 2
            meeting(0, 0, 1, 1, false)
            even(0, 1, 1, 2) = 1
            looked() = 2
            meeting(0, 0, 1, 1, false)
            even(0, 1, 1, 2) refused NO
            looked() = 1
            """);
    }

    private static void lookedAtMost() {
        StringBuilder script = new StringBuilder("players 10\n");
        for (int p = 0; p < 10; p++) {
            for (int q = 0; q < p; q++) {
                script.append(String.format("meeting(0, %d, %d, %d, false)%n", p, q, p % 3));
            }
        }
        told("LOOKED AT: all pairs", script + "looked() = 45; meetings 15 (0, 3, 4, 1, false); looked() = 44");
    }

    private static void moves() {
        told("MOVES: so many right of so many (0 .. 99, 1 .. 99). BAD: more right than all, too", """
            players 2
            moves(0, 0, -1, 5) refused BAD
            moves(0, 0, 0, 0) refused BAD
            moves(0, 0, 0, 100) refused BAD
            moves(0, 0, 100, 100) refused BAD
            moves(0, 0, 99, 98) refused BAD
            moves(0, 0, 2, 1) refused BAD
            moves(0, 0, -1, -1) refused BAD
            moves(0, -1, 1, 1) refused BAD
            moves(0, 4, 1, 1) refused BAD
            moves(-1, 0, 1, 1) refused BAD
            moves(2, 0, 1, 1) refused BAD
            share(0, 0) refused NO
            share(1, 1) refused NO
            moves(0, 0, 0, 1) = 1
            share(0, 0) = 1
            fraction 0/1
            moves(0, 0, 1, 1) = 1
            share(0, 0) = 1
            fraction 1/1
            moves(0, 3, 0, 99) = 1
            share(0, 0) = 1
            fraction 1/100
            moves(0, 3, 99, 99) = 1
            share(0, 0) = 1
            fraction 1/1
            """);
        told("MOVES told anew", """
            players 2; moves(1, 2, 3, 4); moves(1, 2, 5, 9)
            share(1, 0) = 1
            fraction 5/9
            moves(1, 2, 10, 9) refused BAD
            share(1, 0) = 1
            fraction 5/9
            share(0, 0) refused NO
            """);
    }

    private static void weights() {
        told("WEIGHT (1 .. 9; 1 at first) of a CLASS 0 .. 3", """
            weight(-1, 1) refused BAD
            weight(4, 1) refused BAD
            weight(0, 0) refused BAD
            weight(0, 10) refused BAD
            weight(3, 0) refused BAD
            weight(3, 10) refused BAD
            weight(0, 9) = 1; weight(0, 1) = 9; weight(0, 2) = 1
            weight(3, 9) = 1; weight(3, 1) = 9; weight(3, 3) = 1
            weight(1, 4) = 1; weight(2, 5) = 1
            weight(0, 1) = 2; weight(1, 1) = 4; weight(2, 1) = 5; weight(3, 1) = 3
            """);
    }

    private static void shares() {
        told("SHARE (0), PUT RIGHT (1). BAD; NO: none told", """
            players 2
            share(0, -1) refused BAD
            share(0, 2) refused BAD
            share(-1, 0) refused BAD
            share(2, 0) refused BAD
            share(0, 0) refused NO
            share(0, 1) refused NO
            moves(1, 0, 0, 7)
            share(0, 0) refused NO
            share(1, 0) = 1
            fraction 0/1
            share(1, 1) = 1
            fraction 0/1
            share(1, 2) refused BAD
            """);
        told("PUT RIGHT: for CLASSES told of him, over these WEIGHTS", """
            players 2; weight(0, 9) = 1; weight(1, 2) = 1; weight(2, 3) = 1; weight(3, 4) = 1
            moves(0, 1, 1, 2); moves(1, 0, 1, 1)
            share(0, 1) = 1
            fraction 1/2
            moves(0, 2, 1, 3)
            share(0, 0) = 1
            fraction 2/5
            share(0, 1) = 1
            fraction 2/5
            moves(0, 3, 3, 4)
            share(0, 0) = 1
            fraction 5/9
            share(0, 1) = 1
            fraction 5/9
            moves(0, 0, 0, 50)
            share(0, 0) = 1
            fraction 5/59
            share(0, 1) = 1
            fraction 5/18
            """);
    }

    private static void sharesAtMost() {
        // 9 * (97/98 + 94/95 + 96/97 + 98/99) by 36
        long below = 98L * 95 * 97 * 99 * 4;
        long above = 97L * 95 * 97 * 99 + 98L * 94 * 97 * 99 + 98L * 95 * 96 * 99 + 98L * 95 * 97 * 98;
        long common = java.math.BigInteger.valueOf(above).gcd(java.math.BigInteger.valueOf(below)).longValue();
        told("PUT RIGHT: the greatest numbers", "player(0); weight(0, 9) = 1; weight(1, 9) = 1; weight(2, 9) = 1; weight(3, 9) = 1\n"
            + "moves(0, 0, 97, 98); moves(0, 1, 94, 95); moves(0, 2, 96, 97); moves(0, 3, 98, 99); share(0, 1) = 1\n"
            + "fraction " + above / common + "/" + below / common + "\nshare(0, 0) = 1; fraction 385/389");
    }

    private static void fractions() {
        told("THE FRACTION: above (0), below (1). BAD: -1000000000000", """
            part(-1) refused -1000000000000
            part(2) refused -1000000000000
            part(-2147483648) refused -1000000000000
            part(2147483647) refused -1000000000000
            part(0) = 0; part(1) = 1
            """);
        told("lowest terms, below above 0; 0 is 0 by 1", """
            players 4; text 0 '-e'; text 1 '0'; moves(0, 0, 66, 99); share(0, 0) = 1
            fraction 2/3
            moves(0, 0, 0, 99); share(0, 0) = 1
            fraction 0/1
            meeting(1, 0, 1, 2, false); meeting(1, 2, 3, 2, false); meeting(2, 0, 1, 2, false); meeting(2, 2, 3, 1, false)
            creep(0, 1, 2) = 1
            fraction -1/1
            mark(0, 1, true)
            creep(1, 1, 2) = 1
            fraction 0/1
            meeting(3, 0, 2, 1, false)
            creep(0, 2, 3) = 1
            fraction -1/1
            meeting(3, 0, 1, 2, false)
            creep(0, 2, 3) = 1
            fraction -4/3
            """);
    }

    private static void images() {
        told("IMAGES 0, 1. BAD; NO: none was kept", """
            image(-1) refused BAD
            image(2) refused BAD
            from(-1) refused BAD
            from(2) refused BAD
            from(0) refused NO
            from(1) refused NO
            player(0)
            image(1) = 1
            from(0) refused NO
            player(1)
            from(1) = 1
            count(0) = 1
            from(0) refused NO
            image(0) = 1
            player(2)
            from(0) = 1
            count(0) = 1
            from(-1) refused BAD
            from(2) refused BAD
            image(-1) refused BAD
            image(2) refused BAD
            """);
        told("IMAGES keep all but them: one is not in the other, and stays", """
            image(0) = 1
            player(1)
            image(1) = 1
            player(2)
            from(0) = 1
            count(0) = 0
            from(1) = 1
            count(0) = 1
            player(3); player(4)
            image(0) = 1
            from(1) = 1
            count(0) = 1
            from(0) = 1
            count(0) = 3
            from(0) = 1
            count(0) = 3
            """);
        told("IMAGES keep all but THE FRACTION", """
            player(0); moves(0, 0, 1, 3); share(0, 0) = 1
            image(0) = 1
            moves(0, 0, 2, 5); share(0, 0) = 1
            from(0) = 1
            fraction 2/5
            share(0, 0) = 1
            fraction 1/3
            from(0) = 1
            fraction 1/3
            """);
    }

    private static void imagesKeep() {
        told("it goes on from one: nothing of what came later is left", """
            players 2; meeting(5, 0, 1, 2, false); text 0 'e'; image(0) = 1
            players 8; meeting(9, 2, 3, 2, true); mark(0, 0, true); mark(1, 1, true); moves(0, 0, 1, 2); moves(9, 3, 1, 2)
            text 0 'e*2'; text 3 'x'; first(0, 5) = 1000; first(3, 6) = 1000; shape(0, 7) = 0; shape(159, 8) = 0
            wide(9, 10) = 1; weight(0, 2) = 1; weight(3, 3) = 1
            from(0) = 1
            count(0) = 2; count(1) = 1; count(2) = 0; count(3) = 0
            number(0, 0, 1) = 1002
            fault(3) = 1; span(0, 1, 1) = 400
            share(0, 0) refused NO
            player(0) = 2
            share(2, 0) refused NO
            meeting(5, 1, 2, 1, false) = 1
            count(2) = 0; count(3) = 0
            players 7
            share(9, 0) refused NO
            first(0, 1000) = 1000; first(3, 1000) = 1000; shape(0, 0) = 0; shape(159, 0) = 0; weight(0, 1) = 1; weight(3, 1) = 1
            """);
    }

    private static void counts() {
        told("How many: 0 PLAYERS, 1 MEETINGS, 2 GIVEN, 3 DOUBTED ones. BAD", """
            count(-1) refused BAD
            count(4) refused BAD
            count(0) = 0; count(1) = 0; count(2) = 0; count(3) = 0
            players 10
            meetings 60 (0, 8, 9, 1, true)
            mark(0, 1, true); mark(59, 1, true)
            count(0) = 10; count(1) = 60; count(2) = 60; count(3) = 2
            mark(59, 0, false)
            count(2) = 59; count(3) = 2
            """);
        StringBuilder script = new StringBuilder("players 2; meetings 60 (0, 0, 1, 1, false)\n");
        for (int i = 0; i < 60; i++) {
            script.append("mark(").append(i).append(", 1, true) = 1\n");
        }
        told("all sixty DOUBTED", script + "count(3) = 60; count(2) = 0; island(NONE) = 2; fewest() = 0");
    }

    private static long digestOf(long begun, long... values) {
        long h = begun;
        for (long v : values) {
            h = 31 * h + v;
        }
        return h;
    }

    private static void digests() {
        long empty = digestOf(digestOf(digestOf(digestOf(449, 0, 0, 0, 0), NEW_SYSTEMS), new long[160]), NEW_REST);
        told("digest of a new object", "digest() = " + empty + "; digest() = " + empty);
        long born = digestOf(449, 2, 0, 0, 0, -60, 0, 0, 0, 0, 0, 0, 0, 0, 99, 0, 0, 5, 6, 0, 0, 0, 1);
        long two = digestOf(digestOf(digestOf(born, NEW_SYSTEMS), new long[160]), NEW_REST);
        told("digest: of PLAYERS BORN, of CLASSES right, all (0, 0: not told)",
            "player(-60); player(99); moves(1, 1, 5, 6); moves(1, 3, 0, 1); digest() = " + two);
        long met = digestOf(449, 2, 3, 1, 2, 0, 0, 0, 0, 0, 0, 0, 0, 0, 0, 0, 0, 0, 0, 0, 0, 0, 0,
            0, 0, 1, 2, 0, 0, 99, 1, 0, 1, 1, 1, 99, 1, 0, 0, 0, 1);
        told("digest: of MEETINGS YEAR, a, b, END, GIVEN, DOUBTED (1, 0)", "players 2; meeting(0, 0, 1, 2, false)\n"
            + "meeting(99, 1, 0, 1, true); meeting(99, 1, 0, 0, false); mark(1, 1, true); mark(2, 1, true); digest() = "
            + digestOf(digestOf(digestOf(met, NEW_SYSTEMS), new long[160]), NEW_REST));
        told("digest: an erased text and what is gone on from leave nothing",
            "image(0) = 1; players 2; meeting(9, 0, 1, 2, true); text 0 'xyz'; moves(0, 0, 1, 1); from(0) = 1; text 1 'xyz'\n"
            + "erase(1) = 3; digest() = " + empty);
        long[] shapes = new long[160];
        shapes[0] = -500;
        shapes[159] = 500;
        long wide = digestOf(digestOf(digestOf(digestOf(449, 0, 0, 0, 0), 0, 1, 127, 1000, 0, 1000, 0, 9999, 2, 0, 120), shapes),
            1000, 500, 9, 1, 1, 8, 0, 1);
        told("digest: SYSTEMS, SHAPES, WIDE, EVEN, WEIGHTS", "first(0, 0) = 1000; write(0, 127) = 1; first(3, 9999) = 1000\n"
            + "write(3, 0) = 1; write(3, 120) = 2; shape(0, -500) = 0; shape(159, 500) = 0; wide(1000, 500) = 1\n"
            + "weight(0, 9) = 1; weight(3, 8) = 1; digest() = " + wide);
    }

    private static void calls() {
        told("An object is used for at most 512 calls", "players 10\n" + "count(0) = 10\n".repeat(499)
            + "text 0 'e'\nplayer(0) = FULL");
    }
}
