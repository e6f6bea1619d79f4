/** Boundary cases that the second part of 'Terms' names, and promises 15 to 22: each sentence with a run of its own. */
public final class StrengthsEdgesTest {
    private static final Runs RUNS = new Runs();
    /** Ten PLAYERS, each beats the next one. */
    private static final String CHAIN = "players 10; meeting(1, 0, 1, 2, false); meeting(1, 1, 2, 2, false)\n"
        + "meeting(1, 2, 3, 2, false); meeting(1, 3, 4, 2, false); meeting(1, 4, 5, 2, false); meeting(1, 5, 6, 2, false)\n"
        + "meeting(1, 6, 7, 2, false); meeting(1, 7, 8, 2, false); meeting(1, 8, 9, 2, false)\n";

    public static void main(String[] args) {
        shapes();
        ages();
        wide();
        winners();
        evenOnes();
        quarrelsByWide();
        quarrelsFarAround();
        quarrelsByEven();
        quarrelsByShape();
        whoSaysSomething();
        spanRefused();
        spansByShape();
        spansOfChains();
        fewest();
        fewestAndLeast();
        fewestOfEach();
        fewestBesides();
        islands();
        ropes();
        ropesOfLikeOnes();
        ropesThatAreNot();
        bridges();
        RUNS.end();
    }

    private static void told(String sentence, String script) {
        RUNS.told(sentence, script);
    }

    private static void shapes() {
        told("SHAPE: by age 0 .. 159 (-500 .. 500; 0 at first)", """
            shape(-1, 0) refused -100000
            shape(160, 0) refused -100000
            shape(0, -501) refused -100000
            shape(0, 501) refused -100000
            shape(159, -501) refused -100000
            shape(159, 501) refused -100000
            shape(0, -500) = 0
            shape(0, 500) = -500
            shape(0, 501) refused -100000
            shape(0, 0) = 500
            shape(159, 500) = 0
            shape(159, -500) = 500
            shape(158, 1) = 0
            shape(159, 3) = -500
            """);
    }

    private static void ages() {
        String meet = "player(10); player(99); shape(0, 5) = 0; shape(1, 17) = 0; shape(2, 40) = 0; ";
        String same = "span(0, 1, 0) = 1; span(0, 1, 1) = 400";
        told("age: 0 at least: long ahead", meet + "meeting(0, 0, 1, 2, false); " + same);
        told("age: 0 at least: a YEAR ahead", meet + "meeting(9, 0, 1, 2, false); " + same);
        told("age: 0 when BORN", meet + "meeting(10, 0, 1, 2, false); " + same);
        told("age: 1", meet + "meeting(11, 0, 1, 2, false); span(0, 1, 0) = -11; span(0, 1, 1) = 388");
        told("age: 2", meet + "meeting(12, 0, 1, 2, false); span(0, 1, 0) = -34; span(0, 1, 1) = 365");
        String old = "player(-60); player(99); shape(159, 7) = 0; shape(158, 3) = 0; ";
        told("age: 159 at most", old + "meeting(99, 0, 1, 2, false); span(0, 1, 0) = -6; span(0, 1, 1) = 393");
        told("age: 158", old + "meeting(98, 0, 1, 2, false); span(0, 1, 0) = -2; span(0, 1, 1) = 397");
        told("age: of BORN below 0", "player(-1); player(99); shape(1, 9) = 0; meeting(0, 0, 1, 2, false); span(0, 1, 0) = -8");
    }

    private static void wide() {
        told("WIDE 1 .. 1000, 400 at first", """
            players 2; meeting(0, 0, 1, 2, false)
            span(0, 1, 1) = 400
            wide(0, 50) refused BAD
            wide(1001, 50) refused BAD
            span(0, 1, 1) = 400
            wide(1, 50) = 1
            span(0, 1, 0) = 1; span(0, 1, 1) = 1
            wide(1000, 50) = 1
            span(0, 1, 0) = 1; span(0, 1, 1) = 1000
            wide(1001, 50) refused BAD
            span(0, 1, 1) = 1000
            """);
        told("EVEN 0 .. 500, 50 at first", """
            players 2; meeting(0, 0, 1, 1, false)
            span(0, 1, 0) = -50; span(0, 1, 1) = 50
            wide(400, -1) refused BAD
            wide(400, 501) refused BAD
            span(0, 1, 0) = -50; span(0, 1, 1) = 50
            wide(400, 0) = 1
            span(0, 1, 0) = 0; span(0, 1, 1) = 0
            wide(400, 500) = 1
            span(0, 1, 0) = -500; span(0, 1, 1) = 500
            wide(400, 501) refused BAD
            span(0, 1, 1) = 500
            """);
    }

    private static void winners() {
        told("who won is 1 .. WIDE stronger: as a, as b", """
            players 2; meeting(0, 0, 1, 2, false)
            span(0, 1, 0) = 1; span(0, 1, 1) = 400; span(1, 0, 0) = -400; span(1, 0, 1) = -1
            new
            players 2; meeting(0, 0, 1, 0, false)
            span(0, 1, 0) = -400; span(0, 1, 1) = -1; span(1, 0, 0) = 1; span(1, 0, 1) = 400
            """);
        told("no more than 1 .. WIDE, twice", """
            players 3; meeting(0, 0, 1, 2, false); meeting(0, 1, 2, 2, false); meeting(0, 0, 2, 2, false)
            span(0, 2, 0) = 2; span(0, 2, 1) = 400; span(0, 1, 1) = 399; span(1, 2, 1) = 399
            """);
    }

    private static void evenOnes() {
        told("END 1: both are no more than EVEN apart", """
            players 3; meeting(0, 1, 0, 1, false); meeting(0, 2, 1, 1, false)
            span(0, 1, 0) = -50; span(0, 1, 1) = 50; span(1, 0, 1) = 50
            span(0, 2, 0) = -100; span(0, 2, 1) = 100
            meeting(0, 0, 2, 2, false)
            span(0, 2, 0) = 1; span(0, 2, 1) = 100; span(0, 1, 0) = -49; span(0, 1, 1) = 50
            """);
    }

    private static void quarrelsByWide() {
        told("They QUARREL, if no STRENGTHS agree with all", """
            quarrel() = 0
            players 2
            quarrel() = 0
            meeting(0, 0, 1, 2, false)
            quarrel() = 0
            meeting(0, 1, 0, 0, false)
            quarrel() = 0
            meeting(0, 0, 1, 0, false)
            quarrel() = 1
            """);
        told("two steps of 1 need a WIDE of 2", """
            players 3; meeting(0, 0, 1, 2, false); meeting(0, 1, 2, 2, false); meeting(0, 0, 2, 2, false)
            wide(1, 50) = 1
            quarrel() = 1
            wide(2, 50) = 1
            quarrel() = 0
            span(0, 2, 0) = 2; span(0, 2, 1) = 2; span(0, 1, 0) = 1; span(0, 1, 1) = 1
            """);
        told("nine steps of 1 need a WIDE of 9", CHAIN + """
            meeting(1, 0, 9, 2, false)
            wide(8, 50) = 1
            quarrel() = 1
            wide(9, 50) = 1
            quarrel() = 0
            span(4, 5, 0) = 1; span(4, 5, 1) = 1
            wide(10, 50) = 1
            span(4, 5, 1) = 2
            """);
        told("a ring of all ten", CHAIN + "quarrel() = 0; meeting(1, 9, 0, 2, false); quarrel() = 1; fewest() = 1");
    }

    /** All ten are even but for one win, told so that it is felt only slowly around the ring. */
    private static void quarrelsFarAround() {
        StringBuilder forth = new StringBuilder("players 10; wide(400, 0) = 1\n");
        StringBuilder back = new StringBuilder("players 10; wide(400, 0) = 1\n");
        for (int p = 1; p < 10; p++) {
            forth.append(String.format("meeting(0, %d, %d, 1, false)%n", p, (p + 1) % 10));
            back.append(String.format("meeting(0, %d, %d, 1, false)%n", 10 - p, (11 - p) % 10));
        }
        String due = "quarrel() = 1; fewest() = 1; mark(0, 1, true); quarrel() = 0; fewest() = 0";
        told("a ring of all ten by one win: a", forth + "quarrel() = 0; meeting(0, 0, 1, 2, false); " + due);
        told("a ring of all ten by one win: b", forth + "quarrel() = 0; meeting(0, 0, 1, 0, false); " + due);
        told("a ring of all ten by one win, told backward: a", back + "quarrel() = 0; meeting(0, 0, 1, 2, false); " + due);
        told("a ring of all ten by one win, told backward: b", back + "quarrel() = 0; meeting(0, 0, 1, 0, false); " + due);
    }

    private static void quarrelsByEven() {
        told("two steps of 1 need an EVEN of 2", """
            players 3; meeting(0, 0, 1, 2, false); meeting(0, 1, 2, 2, false); meeting(0, 2, 0, 1, false)
            wide(400, 1) = 1
            quarrel() = 1
            wide(400, 2) = 1
            quarrel() = 0
            """);
        told("END 1 in a ring needs none", """
            players 3; meeting(0, 0, 1, 1, false); meeting(0, 1, 2, 1, false); meeting(0, 2, 0, 1, false)
            wide(1, 0) = 1
            quarrel() = 0
            meeting(0, 2, 0, 2, false)
            quarrel() = 1
            wide(1, 1) = 1
            quarrel() = 0
            """);
        told("nine steps of 1 need an EVEN of 9", CHAIN + """
            meeting(1, 9, 0, 1, false)
            wide(400, 8) = 1
            quarrel() = 1
            wide(400, 9) = 1
            quarrel() = 0
            """);
    }

    private static void quarrelsByShape() {
        told("SHAPES in that YEAR: two of END 1 are twice EVEN apart at most", """
            player(0); player(50); meeting(10, 0, 1, 1, false); meeting(20, 1, 0, 1, false)
            shape(20, 100) = 0
            quarrel() = 0
            span(0, 1, 0) = -50; span(0, 1, 1) = -50
            shape(20, 101) = 100
            quarrel() = 1
            shape(20, -100) = 101
            quarrel() = 0
            span(0, 1, 0) = 50; span(0, 1, 1) = 50
            shape(20, -101) = -100
            quarrel() = 1
            """);
        told("SHAPES in that YEAR: one wins, then the other", """
            player(0); player(50); meeting(10, 0, 1, 2, false); meeting(20, 0, 1, 0, false)
            quarrel() = 1
            shape(20, -1) = 0
            quarrel() = 1
            shape(20, -2) = -1
            quarrel() = 0
            span(0, 1, 0) = 1; span(0, 1, 1) = 1
            """);
        told("SHAPES in that YEAR: twice the same, WIDE apart", """
            player(0); player(50); meeting(10, 0, 1, 2, false); meeting(20, 0, 1, 2, false)
            wide(100, 50) = 1
            shape(20, 99) = 0
            quarrel() = 0
            span(0, 1, 0) = 1; span(0, 1, 1) = 1
            shape(20, 100) = 99
            quarrel() = 1
            shape(20, -99) = 100
            quarrel() = 0
            span(0, 1, 0) = 100; span(0, 1, 1) = 100
            shape(20, -100) = -99
            quarrel() = 1
            """);
    }

    private static void whoSaysSomething() {
        told("A MEETING that is not GIVEN nor DOUBTED says", """
            players 2; meeting(0, 0, 1, 2, false); meeting(0, 0, 1, 0, false)
            quarrel() = 1
            mark(0, 0, true); quarrel() = 0; span(0, 1, 1) = -1
            mark(0, 1, true); quarrel() = 0; span(0, 1, 1) = -1
            mark(0, 0, false); quarrel() = 0; span(0, 1, 1) = -1
            mark(0, 1, false); quarrel() = 1
            mark(1, 1, true); quarrel() = 0; span(0, 1, 1) = 400
            mark(0, 1, true); quarrel() = 0; span(0, 1, 1) = -300000
            island(NONE) = 2; bridges() = 0; rope(0, 1, NONE) = -5; fewest() = 0
            """);
        told("the last MEETING says something too", """
            players 2; meetings 59 (0, 0, 1, 2, false)
            quarrel() = 0
            meeting(0, 0, 1, 0, false) = 59
            quarrel() = 1
            mark(59, 1, true)
            quarrel() = 0
            """);
    }

    private static void spanRefused() {
        told("SPAN: BAD: -100000: alike, too; NO: -200000: they QUARREL; -300000: not JOINED", """
            players 4
            span(0, 1, 0) refused -300000
            meeting(0, 0, 1, 2, false)
            span(0, 0, 0) refused -100000
            span(-1, 0, 0) refused -100000
            span(0, -1, 0) refused -100000
            span(4, 0, 0) refused -100000
            span(0, 4, 0) refused -100000
            span(0, 1, -1) refused -100000
            span(0, 1, 2) refused -100000
            span(0, 2, 0) refused -300000
            span(3, 2, 1) refused -300000
            span(3, 0, 1) refused -300000
            span(0, 1, 0) = 1
            meeting(0, 0, 1, 0, false)
            span(0, 1, 0) refused -200000
            span(0, 2, 1) refused -200000
            span(2, 3, 1) refused -200000
            span(2, 2, 1) refused -100000
            span(2, 3, 2) refused -100000
            """);
        told("SPAN: they QUARREL wherever it is", """
            players 4; meeting(0, 0, 1, 2, false); meeting(0, 2, 3, 2, false)
            span(0, 1, 0) = 1
            meeting(0, 3, 2, 2, false)
            span(0, 1, 0) refused -200000
            """);
    }

    private static void spansByShape() {
        told("SPAN of a PLAYER less another one (without SHAPES): the greatest SHAPES", """
            player(0); player(50); meeting(20, 0, 1, 2, false)
            shape(20, 500) = 0; shape(0, -500) = 0
            span(0, 1, 0) = -999; span(0, 1, 1) = -600
            shape(20, -500) = 500; shape(0, 500) = -500
            span(0, 1, 0) = 1001; span(0, 1, 1) = 1400
            span(1, 0, 0) = -1400; span(1, 0, 1) = -1001
            """);
        told("like SHAPES add nothing", """
            players 2; shape(20, 500) = 0; meeting(20, 0, 1, 2, false)
            span(0, 1, 0) = 1; span(0, 1, 1) = 400
            """);
    }

    private static void spansOfChains() {
        told("the least, the greatest over nine MEETINGS", CHAIN + """
            span(0, 9, 0) = 9; span(0, 9, 1) = 3600; span(9, 0, 0) = -3600; span(9, 0, 1) = -9
            wide(1000, 500) = 1
            span(0, 9, 0) = 9; span(0, 9, 1) = 9000
            meeting(1, 9, 0, 1, false)
            span(0, 9, 0) = 9; span(0, 9, 1) = 500; span(0, 1, 1) = 492
            """);
        StringBuilder backward = new StringBuilder("players 10\n");
        for (int p = 8; p >= 0; p--) {
            backward.append(String.format("meeting(0, %d, %d, 2, false)%n", p, p + 1));
        }
        told("the least, the greatest over nine MEETINGS told backward", backward + """
            span(0, 9, 0) = 9; span(0, 9, 1) = 3600; span(9, 0, 0) = -3600; span(9, 0, 1) = -9
            """);
        StringBuilder script = new StringBuilder("wide(1000, 500) = 1\n");
        for (int p = 0; p < 10; p++) {
            script.append("player(").append(p % 2).append(")\n");
        }
        for (int i = 0; i < 9; i++) {
            int year = 10 * i + 10;
            script.append(String.format("meeting(%d, %d, %d, 2, false)%n", year, i, i + 1));
            script.append(String.format("shape(%d, %d) = 0%n", year, i % 2 == 0 ? -500 : 500));
            script.append(String.format("shape(%d, %d) = 0%n", year - 1, i % 2 == 0 ? 500 : -500));
        }
        told("the greatest difference that may be", script + "span(0, 9, 0) = 9009; span(0, 9, 1) = 18000; span(9, 0, 0) = -18000");
    }

    private static void fewest() {
        told("FEWEST: 0: they do not QUARREL", """
            fewest() = 0
            players 2
            fewest() = 0
            meetings 60 (0, 0, 1, 2, false)
            fewest() = 0
            """);
        told("FEWEST: 3 at most", "players 2; meetings 57 (0, 0, 1, 2, false); fewest() = 0\n"
            + "meeting(0, 0, 1, 0, false); fewest() = " + (1L << 57) + "\n"
            + "meeting(0, 0, 1, 0, false); fewest() = " + (3L << 57) + "\n"
            + "meeting(0, 0, 1, 0, false); fewest() = " + (7L << 57));
        told("FEWEST: -5: 3 do not do", "players 2; meetings 56 (0, 0, 1, 2, false); meetings 4 (0, 0, 1, 0, false)\n"
            + "fewest() = -5; mark(56, 1, true); fewest() = " + (7L << 57) + "; mark(56, 1, false); mark(58, 0, true)\n"
            + "fewest() = " + (11L << 56));
        told("FEWEST: 3 and 4 apart", """
            players 10
            meeting(0, 0, 1, 2, false); meeting(0, 0, 1, 0, false)
            fewest() = 1
            meeting(0, 2, 3, 2, false); meeting(0, 2, 3, 0, false)
            fewest() = 5
            meeting(0, 4, 5, 2, false); meeting(0, 4, 5, 0, false)
            fewest() = 21
            meeting(0, 6, 7, 2, false); meeting(0, 6, 7, 0, false)
            fewest() = -5
            meeting(0, 8, 9, 2, false); meeting(0, 8, 9, 0, false)
            fewest() = -5
            """);
    }

    private static void fewestAndLeast() {
        told("the fewest: one rather than two lesser ones", """
            players 2; meetings 2 (0, 0, 1, 2, false); meeting(0, 0, 1, 0, false)
            fewest() = 4
            """);
        told("of like ones the least set as bits: one", """
            players 3; meeting(0, 0, 1, 1, false); meeting(0, 1, 2, 2, false); meeting(0, 2, 1, 2, false)
            fewest() = 2
            """);
        told("of like ones the least set as bits: two, not the one with the first MEETING", """
            players 2; meeting(0, 0, 1, 2, false); meetings 2 (0, 0, 1, 0, false); meeting(0, 0, 1, 2, false)
            fewest() = 6
            """);
        told("of like ones the least set as bits: three, by the greatest of each", """
            players 2; meetings 2 (0, 0, 1, 2, false); meetings 3 (0, 0, 1, 0, false); meeting(0, 0, 1, 2, false)
            fewest() = 28
            """);
        told("the fewest: one MEETING of many rings", """
            players 10
            meeting(0, 0, 2, 2, false); meeting(0, 2, 1, 2, false); meeting(0, 0, 3, 2, false); meeting(0, 3, 1, 2, false)
            meeting(0, 0, 4, 2, false); meeting(0, 4, 1, 2, false); meeting(0, 0, 5, 2, false); meeting(0, 5, 1, 2, false)
            fewest() = 0
            meeting(0, 1, 0, 2, false)
            fewest() = 256
            """);
        told("QUARRELS by WIDE and by EVEN count", """
            players 3; wide(1, 0) = 1
            meeting(0, 0, 1, 2, false); meeting(0, 1, 2, 2, false); meeting(0, 0, 2, 2, false)
            fewest() = 1
            meeting(0, 0, 1, 1, false)
            fewest() = 1
            meeting(0, 0, 1, 2, false)
            fewest() = 10
            """);
    }

    /** Each MEETING quarrels with each other one: all but one must go. */
    private static void fewestOfEach() {
        told("FEWEST: all but one of three, of four, of five", """
            player(0); player(50); wide(400, 0) = 1; shape(20, 500) = 0; shape(30, -500) = 0
            meeting(10, 0, 1, 2, false); meeting(10, 0, 1, 0, false)
            fewest() = 1
            meeting(10, 0, 1, 1, false)
            fewest() = 3
            meeting(20, 0, 1, 1, false)
            fewest() = 7
            meeting(30, 0, 1, 1, false)
            fewest() = -5
            mark(1, 1, true)
            fewest() = 13
            mark(0, 0, true)
            fewest() = 12
            """);
        told("FEWEST: the one that stays is not the last", """
            player(0); player(50); wide(400, 0) = 1; shape(20, 500) = 0
            meetings 2 (10, 0, 1, 2, false); meeting(10, 0, 1, 0, false); meeting(10, 0, 1, 1, false)
            fewest() = 12
            meeting(20, 0, 1, 1, false)
            fewest() = 28
            """);
    }

    private static void fewestBesides() {
        told("left out besides: those GIVEN and DOUBTED are no more asked for", """
            players 2; meetings 3 (0, 0, 1, 2, false); meetings 4 (0, 0, 1, 0, false)
            fewest() = 7
            mark(0, 1, true); fewest() = 6
            mark(1, 0, true); fewest() = 4
            mark(2, 0, true); fewest() = 0
            mark(0, 1, false); fewest() = 1
            """);
    }

    private static void islands() {
        told("ISLANDS: each alone too; of none none", """
            island(NONE) = 0
            island(0) refused BAD
            player(0)
            island(NONE) = 1; island(0) = 0
            island(1) refused BAD
            island(-2) refused BAD
            players 9
            island(NONE) = 10; island(9) = 9
            island(10) refused BAD
            """);
        told("the least PLAYER of one's", """
            players 5
            meeting(0, 4, 3, 1, false); meeting(0, 3, 1, 2, false)
            island(NONE) = 3; island(0) = 0; island(1) = 1; island(2) = 2; island(3) = 1; island(4) = 1
            meeting(0, 2, 0, 0, true)
            island(NONE) = 3; island(2) = 2
            mark(2, 0, false)
            island(NONE) = 2; island(2) = 0
            mark(1, 1, true)
            island(NONE) = 3; island(4) = 3; island(1) = 1
            """);
        told("JOINED: one behind the other, all ten; a QUARREL joins too", CHAIN + """
            island(NONE) = 1; island(9) = 0
            meeting(1, 9, 0, 2, false)
            quarrel() = 1
            island(NONE) = 1; island(9) = 0
            mark(4, 1, true)
            island(NONE) = 1
            mark(9, 0, true)
            island(NONE) = 2; island(4) = 0; island(5) = 5; island(9) = 5
            """);
    }

    private static void ropes() {
        told("ROPE: how many MEETINGS (what = NONE; alike: 0), its i-th MEETING (what = i): the longest", CHAIN + """
            rope(0, 9, NONE) = 9; rope(0, 9, 0) = 0; rope(0, 9, 4) = 4; rope(0, 9, 8) = 8
            rope(0, 9, 9) refused -5
            rope(0, 9, 2147483647) refused -5
            rope(9, 0, NONE) = 9; rope(9, 0, 0) = 8; rope(9, 0, 8) = 0
            rope(9, 0, 9) refused -5
            rope(3, 5, NONE) = 2; rope(3, 5, 0) = 3; rope(3, 5, 1) = 4
            rope(3, 5, 2) refused -5
            rope(0, 9, -2) refused -10
            rope(0, 10, NONE) refused -10
            rope(10, 0, NONE) refused -10
            rope(-1, 0, NONE) refused -10
            rope(0, -1, NONE) refused -10
            """);
        told("the fewest such MEETINGS", CHAIN + """
            meeting(1, 9, 0, 2, false)
            rope(0, 9, NONE) = 1; rope(0, 9, 0) = 9
            rope(0, 9, 1) refused -5
            rope(0, 5, NONE) = 5; rope(0, 5, 0) = 0; rope(0, 6, NONE) = 4; rope(0, 6, 0) = 9; rope(0, 6, 3) = 6
            """);
    }

    private static void ropesOfLikeOnes() {
        told("of like ones the first row of PLAYERS, from the first one on", """
            players 6
            meeting(0, 0, 2, 2, false); meeting(0, 2, 3, 2, false); meeting(0, 3, 5, 2, false)
            meeting(0, 0, 1, 2, false); meeting(0, 1, 4, 2, false); meeting(0, 4, 5, 2, false)
            rope(0, 5, NONE) = 3; rope(0, 5, 0) = 3; rope(0, 5, 1) = 4; rope(0, 5, 2) = 5
            rope(5, 0, NONE) = 3; rope(5, 0, 0) = 2; rope(5, 0, 1) = 1; rope(5, 0, 2) = 0
            """);
        told("then of MEETINGS: the first one of two PLAYERS that says something", """
            players 3
            meeting(0, 1, 0, 2, true); meeting(0, 0, 1, 2, false); meeting(0, 1, 0, 1, false)
            meeting(0, 2, 1, 1, false); meeting(0, 1, 2, 1, false)
            rope(0, 2, NONE) = 2; rope(0, 2, 0) = 1; rope(0, 2, 1) = 3
            mark(1, 1, true)
            rope(0, 2, 0) = 2
            mark(0, 0, false)
            rope(0, 2, 0) = 0
            mark(3, 0, true)
            rope(0, 2, 1) = 4
            """);
    }

    private static void ropesThatAreNot() {
        told("-5: not JOINED, not so many; alike: 0", """
            players 3; meeting(0, 0, 1, 2, true)
            rope(0, 0, NONE) = 0
            rope(0, 0, 0) refused -5
            rope(2, 2, NONE) = 0
            rope(0, 1, NONE) refused -5
            rope(0, 1, 0) refused -5
            mark(0, 0, false)
            rope(0, 1, NONE) = 1; rope(0, 1, 0) = 0; rope(0, 0, NONE) = 0
            rope(0, 0, 0) refused -5
            rope(0, 1, 1) refused -5
            rope(0, 2, NONE) refused -5
            rope(3, 3, NONE) refused -10
            rope(0, 2, -2) refused -10
            """);
    }

    private static void bridges() {
        told("BRIDGES: MEETINGS without which their two would not be JOINED", CHAIN + """
            bridges() = 511
            meeting(1, 4, 5, 0, false)
            bridges() = 495
            mark(9, 1, true)
            bridges() = 511
            mark(9, 1, false); mark(4, 0, true)
            bridges() = 1007
            meeting(1, 9, 0, 1, false)
            bridges() = 0
            mark(8, 1, true)
            bridges() = 1775
            """);
        told("BRIDGES: of none none; the first and the last one", "bridges() = 0; players 4; bridges() = 0\n"
            + "meeting(0, 0, 1, 1, false); meetings 58 (0, 1, 2, 1, true); meeting(0, 2, 3, 0, false)\n"
            + "bridges() = " + (1L << 59 | 1));
    }
}
