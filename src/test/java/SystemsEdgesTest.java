/** Boundary cases that the first part of 'Terms' names, and promises 2 to 14: each sentence with a run of its own. */
public final class SystemsEdgesTest {
    private static final Runs RUNS = new Runs();
    private static final String BLANKS = " ".repeat(50);

    public static void main(String[] args) {
        years();
        players();
        meetings();
        meetingsByYears();
        marks();
        systems();
        firstNumbers();
        texts();
        erasures();
        grammar();
        letters();
        blanks();
        truths();
        wrapping();
        divisions();
        faultsOfKindOne();
        faultsOfDigits();
        faultsOfBrackets();
        faultsAtTheFarEnd();
        changesAreBrought();
        changesAtOnce();
        faultsChangeNothing();
        numbers();
        paid();
        creep();
        creepWithoutSuch();
        hiding();
        foretold();
        bestSystem();
        RUNS.end();
    }

    private static void told(String sentence, String script) {
        RUNS.told(sentence, script);
    }

    /** Whoever won by 2 points of END gets what the text tells; x is o is 1000. */
    private static void tells(String sentence, String text, int want) {
        told(sentence, "players 2; text 0 '" + text + "'; meeting(0, 0, 1, 2, false); fault(0) = NONE; number(0, 0, 1) = "
            + (1000 + want));
    }

    private static void fault(String sentence, String text, int want) {
        told(sentence, "text 3 '" + text + "'; fault(3) = " + want);
    }

    private static void years() {
        told("YEARS 0 .. 99: of meetings", """
            players 2
            meeting(-1, 0, 1, 2, false) refused BAD
            meeting(0, 0, 1, 2, false) = 0
            meeting(99, 0, 1, 2, false) = 1
            meeting(100, 0, 1, 2, false) refused BAD
            """);
        told("YEARS 0 .. 99: of paid, hiding, creep", """
            players 2; text 0 'e'
            meeting(0, 0, 1, 2, false); meeting(99, 0, 1, 2, false)
            paid(0, -1) refused -100000
            paid(0, 0) = 2; paid(0, 99) = 2
            paid(0, 100) refused -100000
            hiding(0, 0, -1) refused -100000
            hiding(0, 0, 0) = -2; hiding(0, 0, 99) = -2
            hiding(0, 0, 100) refused -100000
            creep(0, -1, 99) refused BAD
            creep(0, 0, 100) refused BAD
            creep(0, 0, 99) = 1
            fraction 1/1
            """);
    }

    private static void players() {
        told("BORN in a YEAR (-60 .. 99)", """
            player(-61) refused BAD
            player(100) refused BAD
            player(-60) = 0
            player(99) = 1
            count(0) = 2
            """);
        told("PLAYERS 0 .. 9, as they come; FULL: 10", """
            player(3) = 0; player(2) = 1; player(1) = 2; player(0) = 3; player(-1) = 4
            player(5) = 5; player(6) = 6; player(7) = 7; player(8) = 8
            number(0, 9, 0) refused -100000
            player(9) = 9
            number(0, 9, 0) = 1000
            number(0, 10, 0) refused -100000
            player(10) refused FULL
            player(100) refused BAD
            count(0) = 10
            """);
        told("a PLAYER who is not yet there is not as told", """
            number(0, 0, 0) refused -100000
            island(0) refused BAD
            player(0) = 0
            number(0, 0, 0) = 1000
            island(0) = 0
            island(1) refused BAD
            meeting(0, 0, 1, 2, false) refused BAD
            """);
    }

    private static void meetings() {
        told("MEETINGS 0 .. 59, as they come; FULL: 60", """
            players 2
            meetings 59 (4, 0, 1, 1, false)
            mark(59, 1, true) refused BAD
            number(0, 0, 60) refused -100000
            meeting(4, 0, 1, 1, true) = 59
            mark(59, 1, true) = 1
            mark(60, 1, true) refused BAD
            number(0, 0, 60) = 1000
            number(0, 0, 61) refused -100000
            meeting(4, 0, 1, 1, false) refused FULL
            meeting(99, 1, 0, 2, true) refused FULL
            count(1) = 60
            """);
        told("of two unlike PLAYERS", """
            players 3
            meeting(4, 0, 0, 1, false) refused BAD
            meeting(4, 2, 2, 1, false) refused BAD
            meeting(4, -1, 0, 1, false) refused BAD
            meeting(4, 0, -1, 1, false) refused BAD
            meeting(4, 3, 0, 1, false) refused BAD
            meeting(4, 0, 3, 1, false) refused BAD
            meeting(4, 0, 2, 1, false) = 0
            meeting(4, 2, 0, 1, false) = 1
            """);
        told("END 0 b won, 1 none, 2 a won", """
            players 2; text 0 'e'
            meeting(4, 0, 1, -1, false) refused BAD
            meeting(4, 0, 1, 3, false) refused BAD
            meeting(4, 0, 1, 0, false) = 0
            number(0, 0, 1) = 1000; number(0, 1, 1) = 1002
            meeting(4, 0, 1, 1, false) = 1
            number(0, 0, 2) = 1001; number(0, 1, 2) = 1003
            meeting(4, 0, 1, 2, false) = 2
            number(0, 0, 3) = 1003; number(0, 1, 3) = 1003
            """);
    }

    private static void meetingsByYears() {
        told("in a YEAR no earlier than that of the one ahead", """
            players 3
            meeting(50, 0, 1, 1, false) = 0
            meeting(49, 0, 1, 1, false) refused BAD
            meeting(50, 1, 2, 1, false) = 1
            meeting(51, 1, 2, 1, false) = 2
            meeting(50, 0, 1, 1, false) refused BAD
            meeting(51, 0, 1, 1, false) = 3
            """);
        told("the first one's YEAR has none ahead", "players 2; meeting(0, 0, 1, 1, false) = 0");
        told("the one ahead is the last of the IMAGE that it goes on from", """
            players 2
            image(0) = 1
            meeting(10, 0, 1, 1, false) = 0
            image(1) = 1
            meeting(90, 0, 1, 1, false) = 1
            from(1) = 1
            meeting(9, 0, 1, 1, false) refused BAD
            meeting(10, 0, 1, 1, false) = 1
            from(0) = 1
            meeting(0, 0, 1, 1, false) = 0
            """);
        told("BAD ahead of FULL: a YEAR, a PLAYER, an END", """
            players 2
            meetings 60 (40, 0, 1, 1, false)
            meeting(39, 0, 1, 1, false) refused BAD
            meeting(100, 0, 1, 1, false) refused BAD
            meeting(40, 0, 0, 1, false) refused BAD
            meeting(40, 2, 0, 1, false) refused BAD
            meeting(40, 0, 1, 3, false) refused BAD
            meeting(40, 0, 1, 1, false) refused FULL
            """);
    }

    private static void marks() {
        told("GIVEN or not (it may be told anew); NO: it is so", """
            players 2
            mark(0, 0, true) refused BAD
            mark(0, 0, false) refused BAD
            meeting(1, 0, 1, 2, false) = 0; meeting(1, 0, 1, 2, true) = 1
            mark(0, 0, false) refused NO
            mark(1, 0, true) refused NO
            count(2) = 1
            mark(0, 0, true) = 1
            mark(0, 0, true) refused NO
            count(2) = 2
            mark(1, 0, false) = 1
            mark(1, 0, false) refused NO
            count(2) = 1; count(3) = 0
            """);
        told("DOUBTED (1), or not; at first it is not", """
            players 2
            meeting(1, 0, 1, 2, false) = 0; meeting(1, 0, 1, 2, true) = 1
            mark(0, 1, false) refused NO
            mark(1, 1, false) refused NO
            mark(0, 1, true) = 1; mark(1, 1, true) = 1
            mark(0, 1, true) refused NO
            count(3) = 2; count(2) = 1
            mark(1, 1, false) = 1
            count(3) = 1; count(2) = 1
            """);
        told("mark: BAD ahead of NO", """
            players 2; meeting(1, 0, 1, 2, false)
            mark(0, 2, false) refused BAD
            mark(0, -1, false) refused BAD
            mark(1, 0, false) refused BAD
            mark(-1, 0, false) refused BAD
            mark(0, 0, false) refused NO
            """);
    }

    private static void systems() {
        StringBuilder script = new StringBuilder("player(0); meeting(0, 0, 0, 0, false) refused BAD\n");
        String[] calls = {"first(%d, 5) %s BAD", "write(%d, 120) %s BAD", "erase(%d) %s BAD", "fault(%d) %s BAD",
            "number(%d, 0, 0) %s -100000", "paid(%d, 0) %s -100000", "creep(%d, 0, 1) %s BAD", "hiding(%d, 0, 0) %s -100000",
            "foretold(%d) %s BAD", "best(%d, 0, 0) %s BAD", "best(%d, 1, 1) %s BAD", "best(%d, 2, 0) %s BAD"};
        for (String call : calls) {
            for (int system : new int[] {Integer.MIN_VALUE, -1, 4, Integer.MAX_VALUE}) {
                script.append(String.format(call, system, "refused")).append('\n');
            }
        }
        told("SYSTEMS 0 .. 3: none below, none above", script.toString());
        told("SYSTEMS 0 .. 3: each has a FIRST number and a text of its own", """
            player(0); player(0); meeting(5, 0, 1, 2, false)
            first(0, 10) = 1000; first(1, 11) = 1000; first(2, 12) = 1000; first(3, 13) = 1000
            text 0 'e'; text 1 '2*e'; text 2 '3*e'; text 3 '4*e'
            number(0, 0, 1) = 12; number(1, 0, 1) = 15; number(2, 0, 1) = 18; number(3, 0, 1) = 21
            number(0, 1, 1) = 10; number(1, 1, 1) = 11; number(2, 1, 1) = 12; number(3, 1, 1) = 13
            erase(1) = 3
            fault(0) = NONE; fault(1) = 1; fault(2) = NONE; fault(3) = NONE
            number(1, 0, 1) = 11
            """);
    }

    private static void firstNumbers() {
        told("a FIRST number (0 .. 9999; 1000 at first)", """
            player(0)
            first(2, -1) refused BAD
            first(2, 10000) refused BAD
            number(2, 0, 0) = 1000
            first(2, 0) = 1000
            number(2, 0, 0) = 0
            first(2, 9999) = 0
            number(2, 0, 0) = 9999
            first(2, -1) refused BAD
            first(2, 10000) refused BAD
            first(2, 9999) = 9999
            """);
    }

    private static void texts() {
        told("a text of 50 characters at most; FULL: 50", """
            text 1 'x                                               '
            write(1, 32) = 49
            write(1, 32) = 50
            write(1, 32) refused FULL
            write(1, 63) refused FULL
            write(1, 128) refused BAD
            write(1, -1) refused BAD
            fault(1) = NONE
            write(0, 120) = 1
            write(2, 120) = 1
            erase(1) = 50
            write(1, 120) = 1
            """);
        told("a character (0 .. 127)", """
            write(0, -1) refused BAD
            write(0, 128) refused BAD
            write(0, 376) refused BAD
            write(0, 0) = 1
            write(0, 127) = 2
            fault(0) = 1
            """);
        for (int c = 0; c < 128; c++) {
            boolean stands = c >= '0' && c <= '9' || "xoemyg".indexOf(c) >= 0;
            int want = stands ? -1 : c == ' ' || c == '(' || c == '!' || c == '-' ? 11 : 1;
            told("the text of one character " + c, "write(3, " + c + ") = 1; fault(3) = " + want);
        }
    }

    private static void erasures() {
        told("It is empty: how many (it was)", """
            erase(0) = 0
            fault(0) = 1
            write(0, 120) = 1
            erase(0) = 1
            erase(0) = 0
            fault(0) = 1
            text 0 'e'
            fault(0) = NONE
            """);
        told("an erased text is gone to its end", """
            text 0 'x+o+e+1234567'
            fault(0) = 62
            erase(0) = 13
            write(0, 101) = 1
            fault(0) = NONE
            """);
    }

    private static void grammar() {
        tells("VALUE: BOTHS with |", "0|0|3", 1);
        tells("BOTH: HELDS with &", "1&2&0", 0);
        tells("& holds before |", "1|1&0", 1);
        tells("& holds before |, turned", "0&1|1", 1);
        tells("HELD: SUM < SUM", "2+2<5", 1);
        tells("HELD: SUM > SUM", "2*3>5", 1);
        tells("HELD: SUM = SUM", "2+3=10/2", 1);
        tells("HELD before &", "2&1<3", 1);
        tells("HELD before &: not (2 & 3) < 2", "2&3<2", 0);
        tells("SUM: TERMS with + or -, from the first", "9-4-3+2", 4);
        tells("TERM: UNITS with * or /, from the first", "100/7*7/2", 49);
        tells("TERM before SUM", "2+3*4-6/2", 11);
        tells("( VALUE )", "(1|0)+(3>2)+(7)", 9);
        tells("! UNIT is of the UNIT alone", "!0+5", 6);
        tells("! UNIT times", "!0*5", 5);
        tells("- UNIT is of the UNIT alone", "-2+5", 3);
        tells("- UNIT times", "3*-2", -6);
        tells("- of - of - UNIT", "---7", -7);
        tells("! of - UNIT", "!-7", 0);
        tells("- of ! UNIT", "-!0", -1);
        tells("- behind -", "5--7", 12);
        tells("- of ( VALUE )", "-(3-10)", 7);
        tells("! of ( VALUE )", "!(3<2)", 1);
        fault("SUM < SUM but once", "1<2<3", 31);
        fault("SUM < SUM, then =", "1<2=1", 31);
        fault("SUM = SUM, then >", "1=2>1", 31);
        fault("SUM > SUM, then = behind more", "1>2+3*4=1", 71);
        fault("once again behind &", "1<2&2<3", -1);
        fault("once again behind |", "1<2|2<3&3=3", -1);
        fault("once again within ( )", "(1<2)<(2<3)", -1);
    }

    private static void letters() {
        told("x his number, o the other one's", """
            players 2; text 0 'x-o+e*5'
            meeting(1, 0, 1, 2, false)
            number(0, 0, 1) = 1010; number(0, 1, 1) = 1000
            meeting(1, 0, 1, 2, false)
            number(0, 0, 2) = 1030; number(0, 1, 2) = 990
            """);
        told("m how many MEETINGS he had ahead: 0 at first, 59 at last", """
            players 3; text 0 'm'
            meetings 59 (1, 0, 1, 2, false)
            meeting(1, 2, 0, 2, true) = 59
            number(0, 0, 1) = 1000; number(0, 0, 2) = 1001; number(0, 0, 3) = 1003
            number(0, 0, 59) = 2711; number(0, 0, 60) = 2770
            number(0, 2, 60) = 1000
            """);
        told("y YEARS since his last one (0 without one)", """
            players 3; text 0 'y'
            meeting(7, 0, 1, 2, false); meeting(7, 0, 1, 0, true); meeting(8, 0, 1, 1, false); meeting(99, 2, 0, 2, false)
            number(0, 0, 1) = 1000; number(0, 0, 2) = 1000; number(0, 0, 3) = 1001; number(0, 0, 4) = 1092
            number(0, 2, 4) = 1000
            """);
        told("y at most", """
            players 2; text 0 'y'
            meeting(0, 0, 1, 2, false); meeting(99, 0, 1, 2, false)
            number(0, 0, 1) = 1000; number(0, 0, 2) = 1099
            """);
        told("a last one in the YEAR 0 is a last one", """
            players 3; text 0 'y+m*0'
            meeting(0, 0, 1, 2, false); meeting(3, 0, 2, 2, false)
            number(0, 0, 2) = 1003; number(0, 2, 2) = 1000
            """);
        told("g 1 if it is GIVEN (else 0)", """
            players 2; text 0 'g*7+1'
            meeting(1, 0, 1, 2, false); meeting(1, 0, 1, 2, true)
            number(0, 0, 1) = 1001; number(0, 0, 2) = 1009
            mark(0, 0, true) = 1
            number(0, 0, 1) = 1008
            mark(1, 0, false) = 1
            number(0, 0, 2) = 1009
            mark(0, 1, true) = 1
            number(0, 0, 2) = 1009
            """);
    }

    private static void blanks() {
        tells("blanks anywhere", "  ( 2 + 3 )  * - 4  <  ! 5  ", 1);
        tells("blanks at the end", "12   ", 12);
        tells("blanks ahead", "   12", 12);
        tells("blanks behind a sign", "-  ! - 12", 0);
        fault("but within digits", "1 2", 21);
        fault("but within digits, further", "x+12  3", 61);
        fault("a blank makes no more digits", "123456 7", 71);
        fault("blanks between letters", "x  o", 31);
        told("a tab is no blank", "text 3 'x'; write(3, 9) = 2; fault(3) = 11");
        told("a new line is no blank", "text 3 'x'; write(3, 10) = 2; fault(3) = 11");
        told("a character 0 is no blank", "text 3 'x'; write(3, 0) = 2; fault(3) = 11");
    }

    private static void truths() {
        tells("not 0 is a truth: of !", "!3", 0);
        tells("not 0 is a truth: below 0", "!(0-3)", 0);
        tells("0 is none", "!0", 1);
        tells("not 0 is a truth: of |", "0|-3", 1);
        tells("not 0 is a truth: of &", "-3&4", 1);
        tells("truths are 1: of |", "6|9", 1);
        tells("truths are 1: of &", "6&9", 1);
        tells("0 of &, first", "0&9", 0);
        tells("0 of &, second", "9&0", 0);
        tells("like ones are not less", "3<3", 0);
        tells("like ones are not more", "3>3", 0);
        tells("one less", "2<3", 1);
        tells("one more", "3>2", 1);
        tells("not alike, less", "2=3", 0);
        tells("not alike, more", "4=3", 0);
        tells("all is worked: behind |", "1|7/0", 1);
        tells("all is worked: behind &", "0&7/0", 0);
    }

    /** x is 2^13, so x*x*x*x*2048 is 2^63. */
    private static void wraps(String sentence, String text, int want) {
        told(sentence, "players 2; first(0, 8192) = 1000; text 0 '" + text + "'; meeting(0, 0, 1, 2, false); number(0, 0, 1) = "
            + (8192 + want));
    }

    private static void wrapping() {
        wraps("longs wrap: the greatest is one less than 2^63", "x*x*x*x*2048-1>0", 1);
        wraps("longs wrap: times", "x*x*x*x*2048<0", 1);
        wraps("longs wrap: times to 0", "x*x*x*x*4096=0", 1);
        wraps("longs wrap: plus", "x*x*x*x*1024+x*x*x*x*1024<0", 1);
        wraps("longs wrap: plus one", "x*x*x*x*2048-1+1=x*x*x*x*2048", 1);
        wraps("longs wrap: less one", "x*x*x*x*2048-1=-(x*x*x*x*2048+1)", 1);
        wraps("longs wrap: - of the least", "-(x*x*x*x*2048)=x*x*x*x*2048", 1);
        wraps("longs wrap: the least by -1", "x*x*x*x*2048/-1=x*x*x*x*2048", 1);
        wraps("the least by 1", "x*x*x*x*2048/1=x*x*x*x*2048", 1);
        wraps("below 2^31 and above", "x*x*32-1=2147483647&x*x*32>0", 0);
        wraps("no wrap at 2^31", "x*x*32>0", 1);
        wraps("no wrap at 2^32", "x*x*64=0", 0);
        wraps("no wrap at 2^32, brought", "x*x*64", 500);
        wraps("the greatest is brought", "x*x*x*x*2048-1", 500);
        wraps("the least is brought", "x*x*x*x*2048", -500);
    }

    private static void divisions() {
        tells("/ cut toward 0: both above", "7/2", 3);
        tells("/ cut toward 0: below by above", "-7/2", -3);
        tells("/ cut toward 0: above by below", "7/-2", -3);
        tells("/ cut toward 0: both below", "-7/-2", 3);
        tells("/ cut toward 0: to 0", "-1/2", 0);
        tells("by 0 is 0", "7/0", 0);
        tells("by 0 is 0: below 0", "-7/0", 0);
        tells("by 0 is 0: 0 itself", "0/0", 0);
        tells("by 0 is 0: 0 that is worked", "9+7/(x-o)", 9);
        tells("by 0 is 0: and goes on", "9/0*5+4", 4);
    }

    private static void faultsOfKindOne() {
        fault("the first character that can not stand there: at the first place", "+x", 1);
        fault("an unknown letter", "z", 1);
        fault("a great letter", "X", 1);
        fault("the first of two", "x?+?", 11);
        fault("behind a UNIT no UNIT: a letter", "xo", 11);
        fault("behind a UNIT no UNIT: digits", "x1", 11);
        fault("behind digits no letter", "12x", 21);
        fault("behind a UNIT no !", "x!o", 11);
        fault("behind a UNIT no (", "x(o)", 11);
        fault("behind ) no (", "(x)(o)", 31);
        fault("behind ) no letter", "(x)o", 31);
        fault("behind ) no digits", "(x)1", 31);
        fault("no ) without (", "x)", 11);
        fault("no ) at first", ")", 1);
        fault("no ) behind (", "()", 11);
        fault("no ) behind a sign", "(x+)", 31);
        fault("no ) too many", "((x)))", 51);
        fault("two signs: **", "x**o", 21);
        fault("two signs: +*", "x+*o", 21);
        fault("two signs: ++", "x++o", 21);
        fault("two signs: <=", "x<=o", 21);
        fault("two signs: &&", "x&&o", 21);
        fault("two signs: ||", "x||o", 21);
        fault("no + ahead of a UNIT", "-+x", 11);
        fault("its length: too early: empty", "", 1);
        fault("its length: too early: blanks", "   ", 31);
        fault("its length: too early: a sign", "x*", 21);
        fault("its length: too early: a sign and blanks", "x*  ", 41);
        fault("its length: too early: ! alone", "!", 11);
        fault("its length: too early: - alone", "-", 11);
        fault("its length: too early: ( alone", "(", 11);
        fault("its length: too early: an open (", "(x", 21);
        fault("its length: too early: an open ( and blanks", "((x) ", 51);
        fault("the place counts blanks", "  x  ?", 51);
    }

    private static void faultsOfDigits() {
        for (int n = 1; n <= 6; n++) {
            fault("digits (1 .. 6): " + n, "9".repeat(n), -1);
        }
        fault("a seventh digit (at the first)", "1234567", 2);
        fault("an eighth is no other fault", "12345678", 2);
        fault("a seventh digit, of zeros", "0000000", 2);
        fault("a seventh digit behind blanks", "  1234567", 22);
        fault("a seventh digit within", "x+(1234567", 32);
        fault("a seventh digit behind a sign of its own", "-!1234567", 22);
        fault("a fault ahead of the seventh digit", "x?1234567", 11);
        fault("digits that can not stand there are of kind 1", "x1234567", 11);
        fault("a seventh digit ahead of a fault", "1234567?", 2);
        tells("six digits count whole", "100000-99999", 1);
        tells("zeros ahead", "000012", 12);
        tells("the greatest", "999999=999998+1", 1);
    }

    private static void faultsOfBrackets() {
        fault("8 ( open", "((((((((x))))))))", -1);
        fault("the 9th ( open", "(((((((((x)))))))))", 83);
        fault("the 9th ( open, with blanks and signs", "-( ( ( ( ( ( ( !( -(x", 193);
        fault("a 9th ( that can not stand there is of kind 1", "((((((((x(", 91);
        fault("no 9th, too early", "((((((((", 81);
        fault("the 9th ( ahead of a seventh digit", "(((((((((1234567", 83);
        fault("a seventh digit ahead of the 9th (", "((((((((1234567+(", 82);
        fault("nine, never more than eight open", "(x)+((((((((x))))))))", -1);
        fault("one closed, one more open", "((((((((x)+(x))))))))", -1);
        fault("one closed, two more open", "((((((((x)+((x", 123);
        fault("fifteen, each closed", "(1)+(2)+(3)+(4)+(5)+(6)+(7)+(8)+(9)+(1)+(2)+(3)", -1);
    }

    private static void faultsAtTheFarEnd() {
        fault("the last place of 50", "x" + BLANKS.substring(2) + "?", 491);
        fault("the last place but one", "x" + BLANKS.substring(3) + "?", 481);
        fault("too early at 50", "x+" + BLANKS.substring(2), 501);
        fault("50 blanks", BLANKS, 501);
        fault("an open ( at 50", "(x" + BLANKS.substring(2), 501);
        fault("a seventh digit as the 50th character", BLANKS.substring(7) + "1234567", 432);
        fault("a sixth digit as the 50th character", BLANKS.substring(6) + "123456", -1);
        fault("the 9th ( as the 50th character", BLANKS.substring(9) + "(((((((((", 493);
        fault("the 8th ( as the 50th character", BLANKS.substring(8) + "((((((((", 501);
        fault("50 ( are nine too", "(".repeat(50), 83);
        fault("50 digits", "1".repeat(50), 2);
        fault("50 !", "!".repeat(50), 501);
        tells("50 characters: 49 - and a letter", "-".repeat(49) + "e", -2);
        tells("50 characters: 49 ! and a letter", "!".repeat(49) + "e", 0);
        tells("50 characters: 48 ! and a letter", "!".repeat(48) + " e", 1);
        tells("50 characters: 25 UNITS", "1" + "+1".repeat(23) + "+12", 36);
        tells("50 characters: 25 - UNITS", "-e".repeat(25), -50);
        tells("50 characters: * within + within = within & within |", "0|1&1=1+1*" + "(".repeat(8) + "0" + ")".repeat(8)
            + BLANKS.substring(27), 1);
    }

    private static void changesAreBrought() {
        told("What a text tells is brought to -500 .. 500: above", """
            players 2; text 0 '498+e'
            meeting(1, 0, 1, 1, false)
            number(0, 0, 1) = 1499; number(0, 1, 1) = 1499
            text 0 '499+e'
            number(0, 0, 1) = 1500
            text 0 '500+e'
            number(0, 0, 1) = 1500
            text 0 '500'
            number(0, 0, 1) = 1500
            text 0 '999999*999999'
            number(0, 0, 1) = 1500
            """);
        told("What a text tells is brought to -500 .. 500: below", """
            players 2; text 0 '-498-e'
            meeting(1, 0, 1, 1, false)
            number(0, 0, 1) = 501; number(0, 1, 1) = 501
            text 0 '-499-e'
            number(0, 0, 1) = 500
            text 0 '-500-e'
            number(0, 0, 1) = 500
            text 0 '-999999*999999'
            number(0, 0, 1) = 500
            """);
        told("numbers themselves have no bounds", """
            players 2; first(0, 9999) = 1000; text 0 '500'; text 1 '-500'; first(1, 0) = 1000
            meetings 60 (1, 0, 1, 1, false)
            number(0, 0, 60) = 39999; number(1, 1, 60) = -30000
            number(1, 1, 2) = -1000
            """);
    }

    private static void changesAtOnce() {
        told("both numbers change at once", """
            players 2; first(0, 100) = 1000; text 0 'o/2'
            meeting(1, 0, 1, 2, false)
            number(0, 0, 1) = 150; number(0, 1, 1) = 150
            meeting(1, 1, 0, 2, false)
            number(0, 0, 2) = 225; number(0, 1, 2) = 225
            """);
        told("both numbers change at once: nor has one a MEETING more, or a later one", """
            players 2; text 0 'm*10+y'
            meeting(1, 0, 1, 2, false); meeting(4, 1, 0, 2, false)
            number(0, 0, 1) = 1000; number(0, 1, 1) = 1000
            number(0, 0, 2) = 1013; number(0, 1, 2) = 1013
            """);
    }

    private static void faultsChangeNothing() {
        String meetings = "players 2; meeting(1, 0, 1, 2, false); meeting(2, 0, 1, 1, false); ";
        String nothing = """
            number(0, 0, 2) = 1000; number(0, 1, 2) = 1000
            paid(0, 1) = 0
            creep(0, 1, 2) = 1
            fraction 0/1
            hiding(0, 0, 1) = 0
            foretold(0) = 1
            bestSystem() = NONE
            best(0, 0, 0) = 0; best(0, 1, 2) = 0; best(0, 2, 0) = 0
            fraction 0/1
            """;
        told("with a FAULT nothing changes", meetings + "text 0 'e*10+'; fault(0) = 51\n" + nothing);
        told("with a FAULT of digits nothing changes", meetings + "text 0 'e*10+1234567'; fault(0) = 52\n" + nothing);
        told("with a FAULT of brackets nothing changes", meetings + "text 0 'e*10+((((((((('; fault(0) = 133\n" + nothing);
        told("with a FAULT (empty: too) nothing changes", meetings + "fault(0) = 1\n" + nothing);
    }

    private static void numbers() {
        told("NUMBER behind n MEETINGS (0 .. how many there are)", """
            players 3; text 0 'e*7'
            number(0, 0, 0) = 1000
            number(0, 0, 1) refused -100000
            meeting(1, 0, 1, 2, false)
            number(0, 0, 0) = 1000; number(0, 0, 1) = 1014
            number(0, 0, 2) refused -100000
            number(0, 0, -1) refused -100000
            meeting(1, 1, 2, 2, false)
            number(0, 0, 2) = 1014; number(0, 1, 2) = 1014; number(0, 1, 1) = 1000; number(0, 2, 2) = 1000
            number(0, 3, 0) refused -100000
            number(0, -1, 0) refused -100000
            """);
    }

    private static void paid() {
        told("PAID in a YEAR: all changes of its MEETINGS together; 0 without", """
            players 3; text 0 'e*5-2'
            paid(0, 0) = 0
            meeting(3, 0, 1, 2, false); meeting(4, 0, 1, 1, true); meeting(4, 1, 2, 0, false); meeting(5, 0, 2, 2, false)
            mark(2, 1, true)
            paid(0, 2) = 0; paid(0, 3) = 6; paid(0, 4) = 12; paid(0, 5) = 6; paid(0, 6) = 0; paid(0, 99) = 0
            """);
        told("PAID at most and at least", """
            players 2; text 0 '500'; text 1 '-501'
            meetings 60 (99, 0, 1, 1, false)
            paid(0, 99) = 60000; paid(1, 99) = -60000; paid(0, 98) = 0
            """);
        told("PAID: each change is brought, not their sum", """
            players 2; text 0 '(e-1)*900+100'
            meeting(0, 0, 1, 2, false)
            paid(0, 0) = 0
            text 0 '(e-1)*600+150'
            paid(0, 0) = 50
            """);
    }

    private static void creep() {
        told("CREEP from a YEAR to a later one; BAD: the second YEAR is no later, too", """
            players 2; text 0 'e'
            meeting(5, 0, 1, 2, false); meeting(6, 0, 1, 2, false)
            creep(0, 5, 5) refused BAD
            creep(0, 6, 5) refused BAD
            creep(0, 99, 0) refused BAD
            creep(0, 5, 6) = 1
            fraction 1/1
            creep(0, 6, 6) refused BAD
            fraction 1/1
            """);
        told("of PLAYERS who met in both", """
            players 4; text 0 'e*e*6-5'
            meeting(1, 0, 1, 2, false); meeting(1, 2, 3, 2, false); meeting(5, 0, 3, 0, true); meeting(9, 2, 1, 1, false)
            creep(0, 1, 9) = 1
            fraction 1/1
            creep(0, 1, 5) = 1
            fraction 7/1
            creep(0, 5, 9) = 0
            fraction 7/1
            """);
        told("at the end of the later one, less that at the end of the other one", """
            players 3; text 0 'e*10'
            meeting(1, 0, 1, 2, false); meeting(1, 0, 2, 2, false)
            meeting(2, 1, 2, 2, false); meeting(2, 2, 1, 2, false)
            meeting(3, 0, 1, 2, false); meeting(3, 0, 2, 1, false)
            meeting(4, 0, 1, 2, false)
            creep(0, 1, 3) = 1
            fraction 80/3
            creep(0, 2, 3) = 1
            fraction 5/1
            creep(0, 3, 4) = 1
            fraction 10/1
            """);
        told("the mean may be below 0; lowest terms, below above 0", """
            players 4; text 0 '-e-1'
            meeting(1, 0, 1, 2, false); meeting(1, 2, 3, 2, false); meeting(2, 0, 1, 2, false); meeting(2, 2, 3, 0, false)
            creep(0, 1, 2) = 1
            fraction -2/1
            text 0 '-e'
            meeting(3, 0, 2, 2, false); meeting(3, 1, 0, 1, false)
            creep(0, 2, 3) = 1
            fraction -4/3
            """);
    }

    private static void creepWithoutSuch() {
        told("none without such: THE FRACTION stays", """
            players 4; text 0 'e'
            creep(0, 0, 99) = 0
            fraction 0/1
            meeting(1, 0, 1, 2, false); meeting(2, 0, 1, 2, false); meeting(3, 2, 3, 2, false)
            creep(0, 1, 2) = 1
            fraction 1/1
            text 0 'e*3'
            creep(0, 1, 3) = 0; creep(0, 0, 1) = 0; creep(0, 3, 4) = 0
            fraction 1/1
            """);
    }

    private static void hiding() {
        told("HIDING: without his MEETINGS of that YEAR, less as it is", """
            players 3; text 0 'e*10+m'
            meeting(1, 0, 1, 2, false); meeting(2, 0, 2, 2, false); meeting(2, 1, 2, 0, false); meeting(2, 1, 0, 0, true)
            meeting(3, 0, 1, 1, false)
            hiding(0, 0, 2) = -45
            hiding(0, 0, 1) = -23
            hiding(0, 0, 3) = -13
            hiding(0, 0, 4) = 0; hiding(0, 0, 0) = 0
            hiding(0, 3, 2) refused -100000
            hiding(0, -1, 2) refused -100000
            """);
        told("they never were: for the other one neither, and y looks further back", """
            players 3; text 0 'o-x+y+e*10'
            meeting(1, 0, 1, 2, false); meeting(4, 1, 0, 2, false); meeting(9, 0, 2, 2, false)
            number(0, 0, 3) = 1025
            hiding(0, 0, 4) = 3
            hiding(0, 1, 4) = -43
            hiding(0, 2, 9) = -3
            """);
        told("the others' MEETINGS of that YEAR stay", """
            players 3; text 0 'e*10'
            meeting(1, 0, 1, 2, false); meeting(1, 1, 2, 2, false)
            hiding(0, 0, 1) = -20; hiding(0, 1, 1) = -20; hiding(0, 2, 1) = 0
            """);
    }

    private static void foretold() {
        told("FORETOLD: no more than 50 apart", """
            players 4; text 0 'e*25'; text 1 'e*51/2'
            meeting(1, 0, 1, 2, false); meeting(1, 0, 1, 1, false)
            number(0, 0, 1) = 1050
            foretold(0) = 1
            number(1, 0, 1) = 1051
            foretold(1) = 0
            meeting(1, 2, 3, 0, false); meeting(1, 2, 3, 1, false)
            foretold(0) = 2; foretold(1) = 0
            """);
        told("2 if the greater one won: one more is greater, like ones foretell nothing", """
            players 2; text 0 'e/2'
            meeting(1, 0, 1, 2, false)
            foretold(0) = 0
            meeting(1, 0, 1, 2, false)
            foretold(0) = 2
            meeting(1, 1, 0, 0, false)
            foretold(0) = 4
            meeting(1, 0, 1, 0, false)
            foretold(0) = 4
            meeting(1, 1, 0, 2, false)
            foretold(0) = 4
            """);
        told("of MEETINGS that are not GIVEN, by numbers ahead of each", """
            players 2; text 0 'e'
            foretold(0) = 0
            meeting(1, 0, 1, 2, true); meeting(1, 0, 1, 2, false)
            foretold(0) = 2
            mark(1, 0, true)
            foretold(0) = 0
            mark(0, 0, false)
            foretold(0) = 0
            mark(1, 0, false); mark(1, 1, true)
            foretold(0) = 2
            """);
    }

    private static void bestSystem() {
        told("BEST SYSTEM: of those without FAULT; NONE", """
            bestSystem() = NONE
            text 0 'x+'; text 1 '?'; text 2 '('; text 3 '1234567'
            bestSystem() = NONE
            text 3 '0'
            bestSystem() = 3
            """);
        told("of like ones the first, without a MEETING too", """
            text 3 '1'; text 1 '0'; text 2 'x'
            bestSystem() = 1
            text 0 '0'
            bestSystem() = 0
            erase(0)
            bestSystem() = 1
            """);
        told("the one that foretells most, by one", """
            players 2; text 0 'e*25'; text 1 'e*26'; text 2 'e*25'
            meeting(1, 0, 1, 2, false); meeting(1, 0, 1, 1, false)
            foretold(0) = 1; foretold(1) = 0; foretold(2) = 1; foretold(3) = 1
            bestSystem() = 0
            text 0 'e*26'
            bestSystem() = 2
            text 3 '?'; text 2 'e*25+'
            foretold(2) = 1
            bestSystem() = 0
            """);
    }
}
