/** Each promise of the document by itself: ordinary inputs, the edges it names, wrong inputs. */
public final class PromisesTest {
    private static int wrong = 0;
    private static int promise = 0;

    private static void due(String call, long got, long want) {
        if (got != want) {
            wrong++;
            System.out.println("promise " + promise + ": " + call + " answered " + got + ", due is " + want);
        }
    }

    private static void text(RopeRanks x, int system, String text) {
        x.erase(system);
        for (int i = 0; i < text.length(); i++) {
            x.write(system, text.charAt(i));
        }
    }

    private static RopeRanks withPlayers(int n) {
        RopeRanks x = new RopeRanks();
        for (int p = 0; p < n; p++) {
            x.player(0);
        }
        return x;
    }

    private static void fraction(String call, RopeRanks x, long above, long below) {
        due(call + ", above", x.part(0), above);
        due(call + ", below", x.part(1), below);
    }

    public static void main(String[] args) {
        newObject();
        player();
        meeting();
        mark();
        first();
        write();
        erase();
        fault();
        number();
        numberOfTexts();
        paid();
        creep();
        hiding();
        foretold();
        bestSystem();
        shape();
        wide();
        quarrel();
        span();
        fewest();
        island();
        rope();
        bridges();
        best();
        rounds();
        ways();
        even();
        looked();
        moves();
        weight();
        share();
        part();
        image();
        from();
        count();
        digest();
        System.out.println(wrong == 0 ? "all promises hold" : wrong + " answers are not as due");
        if (wrong != 0) {
            System.exit(1);
        }
    }

    private static void newObject() {
        promise = 1;
        RopeRanks x = new RopeRanks();
        for (int what = 0; what < 4; what++) {
            due("count(" + what + ")", x.count(what), 0);
        }
        for (int system = 0; system < 4; system++) {
            due("first", x.first(system, 1000), 1000);
            due("erase", x.erase(system), 0);
            due("fault", x.fault(system), 1);
        }
        for (int age = 0; age < 160; age++) {
            due("shape", x.shape(age, 0), 0);
        }
        for (int hard = 0; hard < 4; hard++) {
            due("weight", x.weight(hard, 1), 1);
        }
        fraction("new", x, 0, 1);
        due("quarrel", x.quarrel(), 0);
        due("fewest", x.fewest(), 0);
        due("island", x.island(-1), 0);
        due("island 0", x.island(0), RopeRanks.BAD);
        due("bridges", x.bridges(), 0);
        due("ways", x.ways(-1), 0);
        due("rounds", x.rounds(), 0);
        due("looked", x.looked(), 0);
        due("bestSystem", x.bestSystem(), RopeRanks.NONE);
        due("best", x.best(0, 0, 0), RopeRanks.NONE);
        due("best", x.best(0, 2, 0), RopeRanks.NONE);
        due("from", x.from(0), RopeRanks.NO);
    }

    private static void player() {
        promise = 2;
        RopeRanks x = new RopeRanks();
        due("-61", x.player(-61), RopeRanks.BAD);
        due("100", x.player(100), RopeRanks.BAD);
        due("greatest int", x.player(Integer.MAX_VALUE), RopeRanks.BAD);
        due("least int", x.player(Integer.MIN_VALUE), RopeRanks.BAD);
        due("-60", x.player(-60), 0);
        due("99", x.player(99), 1);
        for (int p = 2; p < 10; p++) {
            due("the next", x.player(p), p);
        }
        long digest = x.digest();
        due("an eleventh", x.player(0), RopeRanks.FULL);
        due("BAD ahead of FULL", x.player(100), RopeRanks.BAD);
        due("nothing changed", x.digest(), digest);
    }

    private static void meeting() {
        promise = 3;
        RopeRanks x = withPlayers(2);
        due("year -1", x.meeting(-1, 0, 1, 0, false), RopeRanks.BAD);
        due("year 100", x.meeting(100, 0, 1, 0, false), RopeRanks.BAD);
        due("a -1", x.meeting(0, -1, 1, 0, false), RopeRanks.BAD);
        due("a 2", x.meeting(0, 2, 1, 0, false), RopeRanks.BAD);
        due("b -1", x.meeting(0, 0, -1, 0, false), RopeRanks.BAD);
        due("b 2", x.meeting(0, 0, 2, 0, false), RopeRanks.BAD);
        due("alike", x.meeting(0, 1, 1, 0, false), RopeRanks.BAD);
        due("end -1", x.meeting(0, 0, 1, -1, false), RopeRanks.BAD);
        due("end 3", x.meeting(0, 0, 1, 3, false), RopeRanks.BAD);
        due("none came", x.count(1), 0);
        RopeRanks y = withPlayers(2);
        due("year 7", y.meeting(7, 0, 1, 0, false), 0);
        due("earlier than the first", y.meeting(6, 0, 1, 0, false), RopeRanks.BAD);
        due("year 0", x.meeting(0, 0, 1, 0, false), 0);
        due("year 5", x.meeting(5, 1, 0, 1, true), 1);
        due("earlier", x.meeting(4, 0, 1, 0, false), RopeRanks.BAD);
        due("the same year", x.meeting(5, 0, 1, 2, false), 2);
        due("given", x.count(2), 1);
        for (int i = 3; i < 60; i++) {
            due("the next", x.meeting(99, 0, 1, 0, false), i);
        }
        long digest = x.digest();
        due("a 61st", x.meeting(99, 0, 1, 0, true), RopeRanks.FULL);
        due("BAD ahead of FULL", x.meeting(98, 0, 1, 0, false), RopeRanks.BAD);
        due("nothing changed", x.digest(), digest);
    }

    private static void mark() {
        promise = 4;
        RopeRanks x = withPlayers(2);
        due("no meeting", x.mark(0, 0, true), RopeRanks.BAD);
        x.meeting(0, 0, 1, 2, false);
        x.meeting(0, 0, 1, 2, true);
        due("-1", x.mark(-1, 0, true), RopeRanks.BAD);
        due("2", x.mark(2, 0, true), RopeRanks.BAD);
        due("what -1", x.mark(0, -1, true), RopeRanks.BAD);
        due("what 2", x.mark(0, 2, true), RopeRanks.BAD);
        due("not given already", x.mark(0, 0, false), RopeRanks.NO);
        due("given already", x.mark(1, 0, true), RopeRanks.NO);
        due("given", x.mark(0, 0, true), 1);
        due("both given", x.count(2), 2);
        due("not given", x.mark(1, 0, false), 1);
        due("one given", x.count(2), 1);
        due("not doubted already", x.mark(0, 1, false), RopeRanks.NO);
        due("doubted", x.mark(1, 1, true), 1);
        due("doubted already", x.mark(1, 1, true), RopeRanks.NO);
        due("one doubted", x.count(3), 1);
        due("no longer doubted", x.mark(1, 1, false), 1);
        due("none doubted", x.count(3), 0);
    }

    private static void first() {
        promise = 5;
        RopeRanks x = withPlayers(1);
        due("-1", x.first(0, -1), RopeRanks.BAD);
        due("10000", x.first(0, 10000), RopeRanks.BAD);
        due("system -1", x.first(-1, 0), RopeRanks.BAD);
        due("system 4", x.first(4, 0), RopeRanks.BAD);
        due("0", x.first(0, 0), 1000);
        due("9999", x.first(0, 9999), 0);
        due("the other one's", x.first(3, 7), 1000);
        due("what it was", x.first(0, 5), 9999);
        due("number", x.number(0, 0, 0), 5);
    }

    private static void write() {
        promise = 6;
        RopeRanks x = new RopeRanks();
        due("system -1", x.write(-1, 'x'), RopeRanks.BAD);
        due("system 4", x.write(4, 'x'), RopeRanks.BAD);
        due("-1", x.write(0, -1), RopeRanks.BAD);
        due("128", x.write(0, 128), RopeRanks.BAD);
        due("0", x.write(0, 0), 1);
        due("127", x.write(0, 127), 2);
        for (int i = 3; i <= 50; i++) {
            due("the next", x.write(0, ' '), i);
        }
        due("a 51st", x.write(0, 'x'), RopeRanks.FULL);
        due("BAD ahead of FULL", x.write(0, 128), RopeRanks.BAD);
        due("another system", x.write(1, 'x'), 1);
        due("its fault", x.fault(1), RopeRanks.NONE);
    }

    private static void erase() {
        promise = 7;
        RopeRanks x = new RopeRanks();
        due("system -1", x.erase(-1), RopeRanks.BAD);
        due("system 4", x.erase(4), RopeRanks.BAD);
        text(x, 2, "x+1");
        text(x, 3, "e");
        due("three", x.erase(2), 3);
        due("none", x.erase(2), 0);
        due("empty", x.fault(2), 1);
        due("the other one's stands", x.fault(3), RopeRanks.NONE);
        due("one", x.write(2, 'e'), 1);
        due("no fault", x.fault(2), RopeRanks.NONE);
    }

    private static void faultOf(String text, int want) {
        RopeRanks x = new RopeRanks();
        text(x, 1, text);
        due("fault of '" + text + "'", x.fault(1), want);
    }

    private static void fault() {
        promise = 8;
        RopeRanks x = new RopeRanks();
        due("system -1", x.fault(-1), RopeRanks.BAD);
        due("system 4", x.fault(4), RopeRanks.BAD);
        String[] right = {"x", "o", "e", "m", "y", "g", "0", "999999", " x ", "x+o", "x-o", "x*o", "x/o", "x<o", "x>o",
            "x=o", "x&o", "x|o", "!x", "-x", "!-!-x", "- - x", "x--o", "x*-o", "x&!o", "(x)", "((((((((x))))))))",
            "(x<o)<e", "x<o&o<e|e=1", "( x + 1 ) * 2", "-(x)", "!(x|o)", "x<-o", "(x)+(o)+(e)+(m)+(y)+(g)+(1)+(2)+(3)",
            "!!!!!!!!!!!!!!!!!!!!!!!!!!!!!!!!!!!!!!!!!!!!!!!!!x", "1234567890".substring(0, 6)};
        for (String text : right) {
            faultOf(text, RopeRanks.NONE);
        }
        faultOf("", 1);
        faultOf("   ", 31);
        faultOf("X", 1);
        faultOf("x1", 11);
        faultOf("1x", 11);
        faultOf("1 2", 21);
        faultOf("x o", 21);
        faultOf("x+", 21);
        faultOf("x+ ", 31);
        faultOf("+x", 1);
        faultOf("*x", 1);
        faultOf("x**o", 21);
        faultOf("x+*o", 21);
        faultOf("x!o", 11);
        faultOf("x<o<e", 31);
        faultOf("x<o=e", 31);
        faultOf("x<=o", 21);
        faultOf("x==o", 21);
        faultOf("x&&o", 21);
        faultOf("x<o&o>e>m", 71);
        faultOf("(x", 21);
        faultOf("(x ", 31);
        faultOf("()", 11);
        faultOf("x)", 11);
        faultOf("(x))", 31);
        faultOf("(x o)", 31);
        faultOf("x(", 11);
        faultOf("!", 11);
        faultOf("-", 11);
        faultOf("x\t", 11);
        faultOf("1234567", 2);
        faultOf("x+1234567", 22);
        faultOf("x+0000000", 22);
        faultOf("x1234567", 11);
        faultOf(" 12345678", 12);
        faultOf("(((((((((", 83);
        faultOf("((((((((x(", 91);
        faultOf("x+(((((((((x", 103);
        faultOf("((((((((", 81);
        faultOf("(x)+((((((((x))))))))", RopeRanks.NONE);
    }

    /** Player 0 has 1000 + his change after the one MEETING. */
    private static void change(String text, int end, int want) {
        RopeRanks x = withPlayers(2);
        text(x, 0, text);
        x.meeting(0, 0, 1, end, false);
        due("change by '" + text + "', end " + end, x.number(0, 0, 1) - 1000, want);
    }

    private static void number() {
        promise = 9;
        RopeRanks x = withPlayers(3);
        due("no meetings", x.number(0, 0, 0), 1000);
        due("too many", x.number(0, 0, 1), -100000);
        text(x, 0, "x/100+e+o/500");
        x.meeting(3, 0, 1, 2, false);
        x.meeting(4, 2, 0, 1, true);
        due("system -1", x.number(-1, 0, 0), -100000);
        due("system 4", x.number(4, 0, 0), -100000);
        due("player -1", x.number(0, -1, 0), -100000);
        due("player 3", x.number(0, 3, 0), -100000);
        due("n -1", x.number(0, 0, -1), -100000);
        due("n 3", x.number(0, 0, 3), -100000);
        due("at first", x.number(0, 0, 0), 1000);
        due("behind one", x.number(0, 0, 1), 1014);
        due("behind one, who lost", x.number(0, 1, 1), 1012);
        due("behind one, who had none", x.number(0, 2, 1), 1000);
        due("behind two", x.number(0, 0, 2), 1014 + 10 + 1 + 2);
        due("behind two, both at once", x.number(0, 2, 2), 1000 + 10 + 1 + 2);
        text(x, 0, "x/100+");
        due("with a fault", x.number(0, 0, 2), 1000);
        text(x, 0, "m*100+y*10+g");
        x.meeting(9, 0, 1, 1, false);
        x.meeting(9, 0, 2, 1, true);
        due("m, y, g at first", x.number(0, 0, 1), 1000);
        due("m, y, g second", x.number(0, 0, 2), 1000 + 100 + 10 + 1);
        due("m, y, g third", x.number(0, 0, 3), 1111 + 200 + 50);
        due("m, y, g in the same year", x.number(0, 0, 4), 1361 + 300 + 1);
        due("m, y, g of the other", x.number(0, 1, 4), 1000 + 100 + 60);
        due("m, y, g of the third", x.number(0, 2, 4), 1000 + 1 + 100 + 50 + 1);
        x.mark(1, 0, false);
        due("given told anew", x.number(0, 0, 2), 1110);
        x.mark(1, 1, true);
        due("doubted changes none", x.number(0, 0, 2), 1110);
    }

    private static void numberOfTexts() {
        change("e", 0, 0);
        change("e", 1, 1);
        change("e", 2, 2);
        change("x", 2, 500);
        change("-x", 2, -500);
        change("500", 2, 500);
        change("501", 2, 500);
        change("-501", 2, -500);
        change("7/2", 2, 3);
        change("-7/2", 2, -3);
        change("7/-2", 2, -3);
        change("7/0", 2, 0);
        change("0/0", 2, 0);
        change("10-3-2", 2, 5);
        change("100/10/5", 2, 2);
        change("100/10*5", 2, 50);
        change("2+3*4", 2, 14);
        change("(2+3)*4", 2, 20);
        change("2<3", 2, 1);
        change("3<2", 2, 0);
        change("2<2", 2, 0);
        change("2>2", 2, 0);
        change("3>2", 2, 1);
        change("3=3", 2, 1);
        change("3=2", 2, 0);
        change("1+1=2", 2, 1);
        change("5|7", 2, 1);
        change("0|0", 2, 0);
        change("0|7", 2, 1);
        change("5&7", 2, 1);
        change("5&0", 2, 0);
        change("1&5", 2, 1);
        change("0&5", 2, 0);
        change("1&1", 2, 1);
        change("1|1", 2, 1);
        change("1|0&0", 2, 1);
        change("(1|0)&0", 2, 0);
        change("!5", 2, 0);
        change("!0", 2, 1);
        change("!-0", 2, 1);
        change("-!0", 2, -1);
        change("--5", 2, 5);
        change("3--5", 2, 8);
        change("-5+3", 2, -2);
        change("-(5+3)", 2, -8);
        change("!0+5", 2, 6);
        change("-2*3", 2, -6);
        change("5", 2, 5);
        change(" 1 2", 2, 0);
        change("( ( e ) )", 2, 2);
        // texts of full length
        change("!".repeat(48) + "x", 2, 1);
        change("!".repeat(49) + "x", 2, 0);
        change("-".repeat(49) + "e", 2, -2);
        change("1+".repeat(24) + "10", 2, 34);
        change("-e".repeat(25), 2, -50);
        change("((((((((1+2)*3)*3)-1)*2)-9)<500)|0)-g*(m+(y+1))*3", 2, 1);
        // longs wrap: 999999 cubed is above 2^59 and below 2^60, so times 16 it is beyond a long
        change("999999*999999*999999*16>0", 2, 999999L * 999999 * 999999 * 16 > 0 ? 1 : 0);
        change("999999*999999*999999*999999>0", 2, 999999L * 999999 * 999999 * 999999 > 0 ? 1 : 0);
        change("999999*999999*999999*8<0", 2, 999999L * 999999 * 999999 * 8 < 0 ? 1 : 0);
        change("999999*999999>0", 2, 1);
        // the least long by -1 wraps too
        change("-65536*65536*65536*32768/-1<0", 2, 1);
    }

    private static void paid() {
        promise = 10;
        RopeRanks x = withPlayers(3);
        text(x, 0, "e*10+1");
        x.meeting(3, 0, 1, 2, false);
        x.meeting(3, 0, 2, 1, false);
        x.meeting(5, 1, 2, 0, true);
        due("system -1", x.paid(-1, 0), -100000);
        due("system 4", x.paid(4, 0), -100000);
        due("year -1", x.paid(0, -1), -100000);
        due("year 100", x.paid(0, 100), -100000);
        due("year 3", x.paid(0, 3), 44);
        due("year 4", x.paid(0, 4), 0);
        due("year 5", x.paid(0, 5), 22);
        due("year 99", x.paid(0, 99), 0);
        due("empty", x.paid(1, 3), 0);
        text(x, 1, "e*400-e*e*500");
        due("brought to -500 .. 500", x.paid(1, 5), -500);
    }

    private static void creep() {
        promise = 11;
        RopeRanks x = withPlayers(4);
        text(x, 0, "e*7-3");
        x.meeting(1, 0, 1, 2, false);
        x.meeting(1, 2, 3, 0, true);
        x.meeting(2, 0, 2, 1, false);
        x.meeting(4, 0, 1, 0, false);
        x.meeting(4, 2, 1, 2, false);
        x.meeting(6, 3, 0, 1, false);
        due("system -1", x.creep(-1, 0, 1), RopeRanks.BAD);
        due("system 4", x.creep(4, 0, 1), RopeRanks.BAD);
        due("year -1", x.creep(0, -1, 1), RopeRanks.BAD);
        due("year 100", x.creep(0, 1, 100), RopeRanks.BAD);
        due("the same", x.creep(0, 4, 4), RopeRanks.BAD);
        due("earlier", x.creep(0, 4, 1), RopeRanks.BAD);
        fraction("still new", x, 0, 1);
        // 0: +4 then -3; 1: -3 +11 -3; 2: +4 +11
        due("1 to 4", x.creep(0, 1, 4), 1);
        fraction("1 to 4, 24 by 3", x, 8, 1);
        // 0: 0 then -1; 1: +3 -1; 2: 0 +3
        text(x, 2, "e*e-1");
        due("1 to 4 by another", x.creep(2, 1, 4), 1);
        fraction("1 to 4 by another", x, 4, 3);
        due("2 to 4", x.creep(0, 2, 4), 1);
        fraction("2 to 4", x, 4, 1);
        due("1 to 2", x.creep(0, 1, 2), 1);
        fraction("1 to 2", x, 4, 1);
        due("none", x.creep(0, 1, 3), 0);
        due("none", x.creep(0, 0, 99), 0);
        fraction("as it was", x, 4, 1);
        due("empty", x.creep(1, 1, 4), 1);
        fraction("empty", x, 0, 1);
    }

    private static void hiding() {
        promise = 12;
        RopeRanks x = withPlayers(3);
        text(x, 0, "(e-1)*10+m*y");
        x.meeting(1, 0, 1, 2, false);
        x.meeting(3, 0, 1, 0, false);
        x.meeting(3, 1, 2, 0, false);
        x.meeting(4, 2, 0, 2, true);
        due("system -1", x.hiding(-1, 0, 0), -100000);
        due("system 4", x.hiding(4, 0, 0), -100000);
        due("player -1", x.hiding(0, -1, 0), -100000);
        due("player 3", x.hiding(0, 3, 0), -100000);
        due("year -1", x.hiding(0, 0, -1), -100000);
        due("year 100", x.hiding(0, 0, 100), -100000);
        // as it is: 10, -10 + 1 * 2, -10 + 2 * 1; without year 3: 10, -10 + 1 * 3
        due("year 3", x.hiding(0, 0, 3), (10 - 10 + 3) - (10 - 8 - 8));
        // without year 1: -10, -10 + 1 * 1
        due("year 1", x.hiding(0, 0, 1), (-10 - 9) - (10 - 8 - 8));
        due("year 2", x.hiding(0, 0, 2), 0);
        due("empty", x.hiding(1, 0, 3), 0);
    }

    private static void foretold() {
        promise = 13;
        RopeRanks x = withPlayers(3);
        due("system -1", x.foretold(-1), RopeRanks.BAD);
        due("system 4", x.foretold(4), RopeRanks.BAD);
        text(x, 0, "(e-1)*25");
        x.meeting(1, 0, 1, 2, false);
        due("like ones foretell no winner", x.foretold(0), 0);
        x.meeting(1, 0, 1, 1, false);
        due("50 apart and none won", x.foretold(0), 1);
        x.meeting(1, 0, 1, 2, false);
        due("the greater one won", x.foretold(0), 3);
        x.meeting(1, 0, 1, 1, false);
        due("100 apart and none won", x.foretold(0), 3);
        x.meeting(1, 1, 0, 0, false);
        due("the greater one won, as b", x.foretold(0), 5);
        x.meeting(1, 1, 0, 2, false);
        due("the less one won", x.foretold(0), 5);
        x.meeting(1, 0, 1, 2, true);
        due("given ones do not count", x.foretold(0), 5);
        due("by an empty one", x.foretold(1), 2);
        text(x, 1, "(e-1)*26");
        due("52 apart", x.foretold(1), 4);
        x.mark(2, 1, true);
        due("doubted ones count", x.foretold(1), 4);
        x = withPlayers(2);
        text(x, 0, "(e>1)*51");
        x.meeting(1, 0, 1, 2, false);
        x.meeting(1, 0, 1, 1, false);
        due("51 apart", x.foretold(0), 0);
        text(x, 0, "(e>1)*50");
        due("50 apart", x.foretold(0), 1);
    }

    private static void bestSystem() {
        promise = 14;
        RopeRanks x = withPlayers(2);
        x.meeting(1, 0, 1, 2, false);
        x.meeting(1, 0, 1, 2, false);
        due("none", x.bestSystem(), RopeRanks.NONE);
        text(x, 3, "1");
        due("the only one, with 0", x.bestSystem(), 3);
        text(x, 1, "0");
        due("the first of like ones", x.bestSystem(), 1);
        text(x, 2, "e");
        due("the best", x.bestSystem(), 2);
        text(x, 0, "e+");
        due("not one with a fault", x.bestSystem(), 2);
        text(x, 0, "e+1");
        due("the first of the best", x.bestSystem(), 0);
    }

    private static void shape() {
        promise = 15;
        RopeRanks x = new RopeRanks();
        due("age -1", x.shape(-1, 0), -100000);
        due("age 160", x.shape(160, 0), -100000);
        due("-501", x.shape(0, -501), -100000);
        due("501", x.shape(0, 501), -100000);
        due("-500", x.shape(0, -500), 0);
        due("500", x.shape(0, 500), -500);
        due("what it was", x.shape(0, 0), 500);
        due("159", x.shape(159, 9), 0);
        due("158", x.shape(158, 0), 0);
        // ages are brought to 0 .. 159
        x.player(60);
        x.player(-60);
        x.shape(0, 3);
        x.shape(1, 200);
        x.meeting(50, 0, 1, 2, false);
        x.meeting(99, 0, 1, 1, true);
        // a + 3 - b - shape(110) is 1 .. 400
        due("younger than 0", x.span(0, 1, 0), -2);
        x.shape(110, 10);
        due("as of that age", x.span(0, 1, 0), 8);
        x.mark(0, 1, true);
        x.mark(1, 0, false);
        // the second one is of the ages 39 and 159: 0 less 1 is -41 .. 59
        due("of the greatest age", x.span(0, 1, 0), -50 + 9);
        due("of the greatest age", x.span(0, 1, 1), 50 + 9);
        x.shape(39, 2);
        due("both ages", x.span(0, 1, 0), -50 + 9 - 2);
        due("both ages", x.span(0, 1, 1), 50 + 9 - 2);
    }

    private static void wide() {
        promise = 16;
        RopeRanks x = withPlayers(2);
        due("0", x.wide(0, 0), RopeRanks.BAD);
        due("1001", x.wide(1001, 0), RopeRanks.BAD);
        due("even -1", x.wide(1, -1), RopeRanks.BAD);
        due("even 501", x.wide(1, 501), RopeRanks.BAD);
        x.meeting(1, 0, 1, 2, false);
        due("at first", x.span(0, 1, 1), 400);
        due("1, 0", x.wide(1, 0), 1);
        due("1", x.span(0, 1, 1), 1);
        due("1000, 500", x.wide(1000, 500), 1);
        due("1000", x.span(0, 1, 1), 1000);
        x.mark(0, 1, true);
        x.meeting(1, 1, 0, 1, false);
        due("500", x.span(0, 1, 1), 500);
        due("-500", x.span(0, 1, 0), -500);
        due("refused", x.wide(1, 501), RopeRanks.BAD);
        due("nothing changed", x.span(0, 1, 1), 500);
    }

    private static void quarrel() {
        promise = 17;
        RopeRanks x = withPlayers(3);
        x.meeting(1, 0, 1, 2, false);
        due("one", x.quarrel(), 0);
        x.meeting(1, 1, 0, 2, false);
        due("two", x.quarrel(), 1);
        x.mark(1, 0, true);
        due("given", x.quarrel(), 0);
        x.mark(1, 0, false);
        x.mark(0, 1, true);
        due("doubted", x.quarrel(), 0);
        x = withPlayers(3);
        x.wide(100, 50);
        x.meeting(1, 0, 1, 2, false);
        x.meeting(1, 1, 2, 2, false);
        x.meeting(1, 2, 0, 1, false);
        due("2 to 50 is possible", x.quarrel(), 0);
        x.wide(100, 2);
        due("just 2", x.quarrel(), 0);
        x.wide(100, 1);
        due("1 is not", x.quarrel(), 1);
        x.wide(400, 50);
        x.shape(1, 0);
        x.meeting(9, 2, 1, 1, false);
        due("four", x.quarrel(), 0);
    }

    private static void span() {
        promise = 18;
        RopeRanks x = withPlayers(4);
        x.meeting(1, 0, 1, 0, false);
        due("player -1", x.span(-1, 0, 0), -100000);
        due("player 4", x.span(4, 0, 0), -100000);
        due("other -1", x.span(0, -1, 0), -100000);
        due("other 4", x.span(0, 4, 0), -100000);
        due("what -1", x.span(0, 1, -1), -100000);
        due("what 2", x.span(0, 1, 2), -100000);
        due("alike", x.span(1, 1, 0), -100000);
        due("least", x.span(0, 1, 0), -400);
        due("greatest", x.span(0, 1, 1), -1);
        due("turned, least", x.span(1, 0, 0), 1);
        due("turned, greatest", x.span(1, 0, 1), 400);
        due("not joined", x.span(0, 2, 0), -300000);
        x.meeting(2, 1, 2, 1, false);
        due("over another, least", x.span(0, 2, 0), -450);
        due("over another, greatest", x.span(0, 2, 1), 49);
        x.meeting(3, 2, 3, 2, true);
        due("given does not join", x.span(0, 3, 0), -300000);
        x.meeting(4, 0, 2, 2, false);
        due("all together", x.span(0, 2, 0), 1);
        due("all together", x.span(0, 1, 0), -49);
        x.meeting(5, 0, 1, 2, false);
        due("a quarrel", x.span(0, 1, 0), -200000);
        due("a quarrel ahead of not joined", x.span(0, 3, 0), -200000);
        due("BAD ahead of a quarrel", x.span(0, 0, 0), -100000);
        x.mark(4, 1, true);
        due("doubted", x.span(0, 1, 0), -49);
        x = new RopeRanks();
        x.player(10);
        x.player(20);
        x.shape(20, 7);
        x.shape(10, -4);
        x.meeting(30, 0, 1, 2, false);
        // 0 is 20 then, with 7, and 1 is 10, with -4
        due("with shapes, least", x.span(0, 1, 0), 1 - 11);
        due("with shapes, greatest", x.span(0, 1, 1), 400 - 11);
    }

    private static void fewest() {
        promise = 19;
        RopeRanks x = withPlayers(10);
        x.meeting(1, 0, 1, 2, false);
        due("none", x.fewest(), 0);
        x.meeting(1, 0, 1, 0, false);
        due("the least of two", x.fewest(), 1);
        x.meeting(1, 0, 1, 0, false);
        due("one is fewer than two", x.fewest(), 1);
        x.meeting(1, 0, 1, 2, false);
        due("two of four, the least set", x.fewest(), 6);
        x.meeting(1, 2, 3, 2, false);
        x.meeting(1, 2, 3, 0, false);
        due("three", x.fewest(), 6 | 16);
        x.meeting(2, 4, 5, 2, false);
        x.meeting(2, 4, 5, 0, false);
        due("3 do not do", x.fewest(), -5);
        x.mark(4, 1, true);
        due("besides the doubted", x.fewest(), 6 | 64);
        x.mark(1, 0, true);
        due("besides the given", x.fewest(), 4 | 64);
        x = withPlayers(4);
        // a ring of 0, 1, 2 and one of 0, 1, 3, with 0 over 1 in both
        x.meeting(1, 1, 2, 2, false);
        x.meeting(1, 2, 0, 2, false);
        x.meeting(1, 1, 3, 2, false);
        x.meeting(1, 3, 0, 2, false);
        x.meeting(1, 0, 1, 2, false);
        due("the one in both rings", x.fewest(), 16);
    }

    private static void island() {
        promise = 20;
        RopeRanks x = withPlayers(5);
        due("each alone", x.island(-1), 5);
        due("alone", x.island(4), 4);
        due("-2", x.island(-2), RopeRanks.BAD);
        due("5", x.island(5), RopeRanks.BAD);
        x.meeting(1, 4, 2, 2, false);
        x.meeting(1, 3, 4, 1, false);
        x.meeting(1, 1, 0, 1, true);
        due("how many", x.island(-1), 3);
        due("of 2", x.island(2), 2);
        due("of 3", x.island(3), 2);
        due("of 4", x.island(4), 2);
        due("of 1", x.island(1), 1);
        x.mark(2, 0, false);
        due("told anew", x.island(-1), 2);
        due("of 1, told anew", x.island(1), 0);
        x.mark(1, 1, true);
        due("doubted", x.island(-1), 3);
        due("of 3, doubted", x.island(3), 3);
    }

    private static void rope() {
        promise = 21;
        RopeRanks x = withPlayers(6);
        x.meeting(1, 0, 2, 2, false);
        x.meeting(1, 2, 4, 2, false);
        x.meeting(1, 1, 4, 2, false);
        x.meeting(1, 0, 1, 2, false);
        x.meeting(1, 1, 0, 1, false);
        x.meeting(1, 3, 4, 1, false);
        due("player -1", x.rope(-1, 0, 0), -10);
        due("player 6", x.rope(6, 0, 0), -10);
        due("other -1", x.rope(0, -1, 0), -10);
        due("other 6", x.rope(0, 6, 0), -10);
        due("what -2", x.rope(0, 1, -2), -10);
        due("alike", x.rope(3, 3, -1), 0);
        due("alike, the 0th", x.rope(3, 3, 0), -5);
        due("alone, alike", x.rope(5, 5, -1), 0);
        due("not joined", x.rope(0, 5, -1), -5);
        due("not joined, the 0th", x.rope(0, 5, 0), -5);
        due("length", x.rope(0, 3, -1), 3);
        due("by the first row of players", x.rope(0, 3, 0), 3);
        due("then", x.rope(0, 3, 1), 2);
        due("at last", x.rope(0, 3, 2), 5);
        due("not so many", x.rope(0, 3, 3), -5);
        due("by far not", x.rope(0, 3, Integer.MAX_VALUE), -5);
        due("back", x.rope(3, 0, 0), 5);
        due("back, then", x.rope(3, 0, 1), 2);
        due("back, at last", x.rope(3, 0, 2), 3);
        x.mark(3, 0, true);
        due("the next meeting of these two", x.rope(0, 3, 0), 4);
        x.mark(4, 1, true);
        due("the other way", x.rope(0, 3, 0), 0);
        due("the other way, then", x.rope(0, 3, 1), 1);
        x.meeting(2, 3, 0, 0, false);
        due("shorter", x.rope(0, 3, -1), 1);
        due("shorter, the meeting", x.rope(0, 3, 0), 6);
    }

    private static void bridges() {
        promise = 22;
        RopeRanks x = withPlayers(5);
        x.meeting(1, 0, 1, 2, false);
        due("one", x.bridges(), 1);
        x.meeting(1, 1, 2, 2, false);
        x.meeting(1, 2, 0, 1, false);
        due("a ring has none", x.bridges(), 0);
        x.meeting(1, 2, 3, 1, false);
        due("on from the ring", x.bridges(), 8);
        x.meeting(1, 3, 2, 1, false);
        due("twice is no bridge", x.bridges(), 0);
        x.mark(4, 0, true);
        due("given joins not", x.bridges(), 8);
        x.mark(2, 1, true);
        due("doubted joins not", x.bridges(), 11);
        RopeRanks y = withPlayers(2);
        for (int i = 0; i < 59; i++) {
            y.meeting(1, 0, 1, 1, true);
        }
        y.meeting(1, 0, 1, 1, false);
        due("the last bit", y.bridges(), 1L << 59);
    }

    private static void best() {
        promise = 23;
        RopeRanks x = withPlayers(4);
        text(x, 0, "(e-1)*10");
        due("system -1", x.best(-1, 0, 1), RopeRanks.BAD);
        due("system 4", x.best(4, 0, 1), RopeRanks.BAD);
        due("question -1", x.best(0, -1, 1), RopeRanks.BAD);
        due("question 3", x.best(0, 3, 1), RopeRanks.BAD);
        due("k 0", x.best(0, 1, 0), RopeRanks.BAD);
        due("k 10", x.best(0, 1, 10), RopeRanks.BAD);
        due("k not looked at", x.best(0, 0, 99), RopeRanks.NONE);
        due("k not looked at", x.best(0, 2, -99), RopeRanks.NONE);
        due("none", x.best(0, 1, 1), RopeRanks.NONE);
        x.meeting(1, 1, 2, 2, false);
        due("of two", x.best(0, 0, 0), 1);
        // 2 is at 1010 within the year 1, but not at its end
        x.meeting(1, 2, 1, 2, false);
        x.meeting(1, 2, 1, 2, false);
        x.meeting(1, 2, 1, 0, false);
        due("like ones, the least, 0 did not meet", x.best(0, 0, 0), 1);
        x.meeting(2, 3, 2, 2, false);
        due("year 2", x.best(0, 0, 0), 3);
        due("two years", x.best(0, 1, 2), 2);
        due("one year", x.best(0, 1, 1), 3);
        due("three years", x.best(0, 1, 3), RopeRanks.NONE);
        due("above the mean", x.best(0, 2, 0), 3);
        fraction("above the mean", x, 10, 1);
        x.meeting(5, 3, 2, 0, false);
        x.meeting(5, 3, 1, 0, false);
        // at the end of 5: 3 at 990, 2 at 1000, 1 at 1010
        due("two years, the least of them", x.best(0, 1, 2), 1);
        due("three years", x.best(0, 1, 3), 2);
        due("four years", x.best(0, 1, 4), RopeRanks.NONE);
        due("like ones by two years: the least player", x.best(0, 2, 0), 1);
        fraction("like ones", x, 10, 1);
        x.meeting(7, 0, 3, 2, false);
        x.meeting(7, 2, 3, 2, false);
        // at the end of 7: 0 at 1010, 2 at 1010, 3 at 970: the mean is 2990 by 3
        due("a fraction", x.best(0, 2, 0), 0);
        fraction("a fraction", x, 40, 3);
        due("a fault", x.best(3, 2, 0), 0);
        fraction("a fault", x, 0, 1);
        bestOfRows();
    }

    /** Rows of nine years, and which years stand in one row. */
    private static void bestOfRows() {
        RopeRanks x = withPlayers(4);
        text(x, 0, "e*10-10");
        int[] ends = {2, 2, 0, 0, 0, 2, 2, 2, 2, 2, 0, 2};
        for (int i = 0; i < ends.length; i++) {
            x.meeting(i * 2, 0, 1, ends[i], false);
        }
        // 0 by years: 10 20 10 0 -10 0 10 20 30 40 30 40; 1 is the mirror
        for (int k = 1; k <= 9; k++) {
            due("nine in a row, " + k, x.best(0, 1, k), 0);
        }
        x.meeting(50, 2, 3, 2, false);
        x.meeting(50, 2, 3, 2, false);
        x.meeting(50, 2, 3, 2, false);
        due("three wins, one year", x.best(0, 1, 1), 0);
        x.meeting(51, 2, 3, 2, false);
        // 2 by years: 30 40; 0's best two in a row have 30, three too
        due("two years, like", x.best(0, 1, 2), 0);
        x.meeting(52, 2, 3, 1, false);
        due("two years, more", x.best(0, 1, 2), 2);
        due("three years, like", x.best(0, 1, 3), 0);
        x.meeting(53, 2, 3, 1, false);
        due("two years", x.best(0, 1, 2), 2);
        due("three years", x.best(0, 1, 3), 2);
        due("four years", x.best(0, 1, 4), 0);
        due("five years", x.best(0, 1, 5), 0);
    }

    private static void rounds() {
        promise = 24;
        RopeRanks x = withPlayers(4);
        x.meeting(1, 0, 1, 2, false);
        x.meeting(1, 1, 2, 2, false);
        due("not yet", x.rounds(), 0);
        x.meeting(1, 0, 2, 0, false);
        due("one", x.rounds(), 1);
        x.meeting(1, 0, 2, 0, false);
        due("the same three", x.rounds(), 1);
        x.mark(1, 1, true);
        due("doubted ones count", x.rounds(), 1);
        x.mark(1, 0, true);
        due("given ones do not", x.rounds(), 0);
        x.mark(1, 0, false);
        x.meeting(2, 1, 0, 2, false);
        x.meeting(2, 2, 1, 2, false);
        x.meeting(2, 0, 2, 2, false);
        due("both ways around", x.rounds(), 2);
        x.meeting(3, 3, 1, 1, false);
        x.meeting(3, 3, 2, 1, false);
        due("none won", x.rounds(), 2);
        x.meeting(4, 1, 3, 2, false);
        x.meeting(4, 3, 2, 2, false);
        due("1, 3, 2", x.rounds(), 3);
        x.meeting(4, 3, 0, 2, false);
        due("0, 1, 3 too", x.rounds(), 4);
    }

    private static void waysAre(RopeRanks x, int many, int... row) {
        due("how many", x.ways(-1), many);
        for (int p = 0; p < row.length; p++) {
            due("way of " + p, x.ways(p), row[p]);
        }
    }

    private static void ways() {
        promise = 25;
        RopeRanks x = withPlayers(4);
        due("-2", x.ways(-2), RopeRanks.BAD);
        due("4", x.ways(4), RopeRanks.BAD);
        waysAre(x, 0, 0, 0, 0, 0);
        x.meeting(1, 0, 1, 2, false);
        waysAre(x, 1, 0, 1, 0, 0);
        x.meeting(1, 1, 2, 2, false);
        x.meeting(1, 2, 0, 2, false);
        waysAre(x, 3, 0, 1, 2, 0);
        x.meeting(1, 3, 0, 2, false);
        waysAre(x, 4, 0, 1, 2, 2);
        x.meeting(1, 3, 1, 2, false);
        waysAre(x, 4, 0, 1, 2, 0);
        x.meeting(1, 0, 1, 0, true);
        x.meeting(1, 0, 1, 0, true);
        waysAre(x, 4, 0, 1, 2, 0);
        x.meeting(1, 3, 0, 1, false);
        waysAre(x, 4, 0, 1, 2, 0);
        x.mark(0, 1, true);
        waysAre(x, 4, 0, 1, 2, 0);
        RopeRanks y = withPlayers(3);
        y.meeting(1, 1, 0, 2, false);
        y.meeting(1, 1, 2, 2, false);
        waysAre(y, 2, 0, 2, 0);
    }

    private static void even() {
        promise = 26;
        RopeRanks x = withPlayers(3);
        due("none", x.even(0, 1, 1, 2), RopeRanks.NO);
        x.meeting(1, 0, 1, 1, true);
        due("player -1", x.even(-1, 1, 1, 2), RopeRanks.BAD);
        due("player 3", x.even(3, 1, 1, 2), RopeRanks.BAD);
        due("other -1", x.even(0, -1, 1, 2), RopeRanks.BAD);
        due("other 3", x.even(0, 3, 1, 2), RopeRanks.BAD);
        due("alike", x.even(0, 0, 1, 2), RopeRanks.BAD);
        due("a 0", x.even(0, 1, 0, 2), RopeRanks.BAD);
        due("a as b", x.even(0, 1, 2, 2), RopeRanks.BAD);
        due("b 10", x.even(0, 1, 2, 10), RopeRanks.BAD);
        due("BAD ahead of NO", x.even(0, 2, 0, 2), RopeRanks.BAD);
        due("1 of 1", x.even(0, 1, 4, 6), 1);
        fraction("1 of 1", x, 2, 3);
        x.meeting(1, 1, 0, 2, false);
        x.meeting(1, 0, 1, 1, false);
        due("2 of 3", x.even(1, 0, 1, 3), 1);
        fraction("2 of 3", x, 7, 27);
        x.meeting(1, 0, 2, 2, false);
        due("0 of 1", x.even(0, 2, 8, 9), 1);
        fraction("0 of 1", x, 1, 1);
        x.mark(0, 1, true);
        due("doubted too", x.even(0, 1, 1, 3), 1);
        fraction("doubted too", x, 7, 27);
        due("NO leaves it", x.even(1, 2, 1, 2), RopeRanks.NO);
        fraction("NO leaves it", x, 7, 27);
        for (int i = 3; i < 15; i++) {
            x.meeting(2, 1, 0, 1, false);
        }
        due("14 of 15", x.even(0, 1, 8, 9), 1);
        // 15 * 8^14 + 8^15 = 23 * 8^14 of 9^15
        fraction("14 of 15", x, 23L * (1L << 42), 205891132094649L);
        x.meeting(2, 1, 0, 1, false);
        due("16", x.even(0, 1, 8, 9), RopeRanks.NO);
    }

    private static void looked() {
        promise = 27;
        RopeRanks x = withPlayers(4);
        x.meeting(1, 0, 1, 2, false);
        due("one", x.looked(), 1);
        x.meeting(1, 1, 0, 1, true);
        due("the same", x.looked(), 1);
        x.meeting(1, 3, 0, 1, true);
        due("given too", x.looked(), 2);
        for (int i = 2; i < 15; i++) {
            x.meeting(2, 1, 0, 1, false);
        }
        due("15 of them", x.looked(), 2);
        x.meeting(2, 1, 0, 1, false);
        due("16 of them are no chance that is told", x.looked(), 1);
    }

    private static void moves() {
        promise = 28;
        RopeRanks x = withPlayers(2);
        due("player -1", x.moves(-1, 0, 1, 1), RopeRanks.BAD);
        due("player 2", x.moves(2, 0, 1, 1), RopeRanks.BAD);
        due("hard -1", x.moves(0, -1, 1, 1), RopeRanks.BAD);
        due("hard 4", x.moves(0, 4, 1, 1), RopeRanks.BAD);
        due("right -1", x.moves(0, 0, -1, 1), RopeRanks.BAD);
        due("right 100", x.moves(0, 0, 100, 100), RopeRanks.BAD);
        due("all 0", x.moves(0, 0, 0, 0), RopeRanks.BAD);
        due("all 100", x.moves(0, 0, 1, 100), RopeRanks.BAD);
        due("more right than all", x.moves(0, 0, 3, 2), RopeRanks.BAD);
        due("none told", x.share(0, 0), RopeRanks.NO);
        due("99 of 99", x.moves(0, 3, 99, 99), 1);
        x.share(0, 0);
        fraction("99 of 99", x, 1, 1);
        due("told anew", x.moves(0, 3, 0, 1), 1);
        x.share(0, 0);
        fraction("told anew", x, 0, 1);
        due("the other one's", x.share(1, 0), RopeRanks.NO);
    }

    private static void weight() {
        promise = 29;
        RopeRanks x = new RopeRanks();
        due("hard -1", x.weight(-1, 1), RopeRanks.BAD);
        due("hard 4", x.weight(4, 1), RopeRanks.BAD);
        due("0", x.weight(0, 0), RopeRanks.BAD);
        due("10", x.weight(0, 10), RopeRanks.BAD);
        due("9", x.weight(0, 9), 1);
        due("what it was", x.weight(0, 2), 9);
        due("another", x.weight(3, 2), 1);
    }

    private static void share() {
        promise = 30;
        RopeRanks x = withPlayers(2);
        due("player -1", x.share(-1, 0), RopeRanks.BAD);
        due("player 2", x.share(2, 0), RopeRanks.BAD);
        due("what -1", x.share(0, -1), RopeRanks.BAD);
        due("what 2", x.share(0, 2), RopeRanks.BAD);
        due("none told", x.share(0, 0), RopeRanks.NO);
        due("none told", x.share(0, 1), RopeRanks.NO);
        x.moves(0, 1, 3, 4);
        x.moves(0, 2, 1, 6);
        due("share", x.share(0, 0), 1);
        fraction("share", x, 2, 5);
        due("put right", x.share(0, 1), 1);
        fraction("put right", x, 11, 24);
        x.weight(0, 9);
        x.weight(1, 2);
        x.weight(2, 3);
        due("put right by weights", x.share(0, 1), 1);
        fraction("put right by weights", x, 2, 5);
        x.weight(2, 7);
        due("put right by others", x.share(0, 1), 1);
        fraction("put right by others", x, 8, 27);
        x.moves(1, 0, 1, 1);
        x.moves(1, 3, 0, 2);
        due("of one move", x.share(1, 1), 1);
        fraction("of one move", x, 9, 10);
        x.moves(0, 0, 97, 98);
        x.moves(0, 1, 94, 95);
        x.moves(0, 2, 96, 97);
        x.moves(0, 3, 98, 99);
        due("four of them", x.share(0, 1), 1);
        long below = 98L * 95 * 97 * 99 * 19;
        long above = 98L * 95 * 97 * 99 * 19 - (9L * 95 * 97 * 99 + 2L * 98 * 97 * 99 + 7L * 98 * 95 * 99 + 98L * 95 * 97);
        due("four of them, above", x.part(0) * (below / x.part(1)), above);
        due("four of them, below", below % x.part(1), 0);
    }

    private static void part() {
        promise = 31;
        RopeRanks x = withPlayers(2);
        due("above", x.part(0), 0);
        due("below", x.part(1), 1);
        due("-1", x.part(-1), -1000000000000L);
        due("2", x.part(2), -1000000000000L);
        x.moves(0, 0, 2, 6);
        x.share(0, 0);
        fraction("lowest terms", x, 1, 3);
        text(x, 0, "-e-2");
        x.meeting(1, 0, 1, 0, false);
        x.meeting(2, 0, 1, 0, false);
        x.creep(0, 1, 2);
        fraction("below 0", x, -3, 1);
    }

    private static RopeRanks full() {
        RopeRanks x = withPlayers(3);
        x.player(7);
        text(x, 2, "x-o+!e");
        x.first(1, 77);
        x.meeting(9, 0, 1, 2, true);
        x.meeting(10, 1, 3, 0, false);
        x.mark(1, 1, true);
        x.shape(44, -5);
        x.wide(3, 2);
        x.moves(1, 2, 3, 4);
        x.weight(3, 6);
        return x;
    }

    private static void image() {
        promise = 32;
        RopeRanks x = full();
        due("-1", x.image(-1), RopeRanks.BAD);
        due("2", x.image(2), RopeRanks.BAD);
        long digest = x.digest();
        due("0", x.image(0), 1);
        due("nothing changed", x.digest(), digest);
        x.player(1);
        long second = x.digest();
        due("1", x.image(1), 1);
        x.player(2);
        due("from 0", x.from(0), 1);
        due("as it was", x.digest(), digest);
        due("from 1", x.from(1), 1);
        due("as it was then", x.digest(), second);
        due("kept anew", x.image(0), 1);
        x.player(3);
        x.from(0);
        due("as it was then", x.digest(), second);
    }

    private static void from() {
        promise = 33;
        RopeRanks x = full();
        due("-1", x.from(-1), RopeRanks.BAD);
        due("2", x.from(2), RopeRanks.BAD);
        due("none 0", x.from(0), RopeRanks.NO);
        due("none 1", x.from(1), RopeRanks.NO);
        long digest = x.digest();
        x.image(1);
        due("none 0 still", x.from(0), RopeRanks.NO);
        x.player(3);
        x.meeting(50, 3, 4, 1, true);
        x.mark(0, 0, false);
        x.mark(0, 1, true);
        x.first(0, 1);
        text(x, 2, "x");
        text(x, 3, "x-o");
        x.shape(0, 1);
        x.shape(159, 1);
        x.wide(9, 9);
        x.moves(3, 0, 1, 2);
        x.weight(0, 9);
        due("goes on", x.from(1), 1);
        due("all as it was", x.digest(), digest);
        due("twice", x.from(1), 1);
        due("as it was", x.digest(), digest);
        due("earlier than what is gone", x.meeting(10, 0, 1, 2, false), 2);
        x.share(1, 0);
        x.from(1);
        fraction("the fraction stands", x, 3, 4);
        fromOverOthers();
    }

    /** Two pasts that differ in every row of some kind: each comes back whole. An object has 512 calls at most. */
    private static void fromOverOthers() {
        for (int kind = 0; kind < 4; kind++) {
            RopeRanks x = new RopeRanks();
            x.image(0);
            fill(x, kind, 0);
            long first = x.digest();
            x.image(1);
            x.from(0);
            fill(x, kind, 1);
            due("the second past is another", x.digest() == first ? 1 : 0, 0);
            x.from(1);
            due("the first past", x.digest(), first);
            x.from(0);
            due("nothing at all", x.digest(), new RopeRanks().digest());
        }
    }

    private static void fill(RopeRanks x, int kind, int past) {
        for (int p = 0; p < 10 && kind < 2; p++) {
            x.player(p + 20 * past);
            for (int hard = 0; hard < 4 && kind == 0; hard++) {
                x.moves(p, hard, p + past, 50 + p + hard + past);
            }
        }
        for (int i = 0; i < 60 && kind == 1; i++) {
            x.meeting(i + 30 * past, i % 5 + 5 * past, (i + 1) % 5 + 5 * past, (i + past) % 3, i % 2 == past);
            x.mark(i, 1, i % 3 == past);
        }
        for (int i = 0; i < 200 && kind == 2; i++) {
            x.write(i % 4, 'a' + past + i % 29);
        }
        for (int system = 0; system < 4 && kind == 3; system++) {
            x.first(system, 50 * system + past);
            x.weight(system, 1 + system + past);
        }
        for (int age = 0; age < 160 && kind == 3; age++) {
            x.shape(age, age + past);
        }
        x.wide(70 + past, 80 + past);
    }

    private static void count() {
        promise = 34;
        RopeRanks x = full();
        due("-1", x.count(-1), RopeRanks.BAD);
        due("4", x.count(4), RopeRanks.BAD);
        due("players", x.count(0), 4);
        due("meetings", x.count(1), 2);
        due("given", x.count(2), 1);
        due("doubted", x.count(3), 1);
        x.mark(0, 1, true);
        due("both doubted", x.count(3), 2);
    }

    private static void digest() {
        promise = 35;
        RopeRanks x = full();
        x.share(1, 0);
        long[] ahead = {4, 2, 1, 1, 0, 0, 0, 0, 0, 0, 0, 0, 0, 0, 0, 0, 0, 0, 3, 4, 0, 0, 0, 0, 0, 0, 0, 0, 0, 0, 0,
            7, 0, 0, 0, 0, 0, 0, 0, 0, 9, 0, 1, 2, 1, 0, 10, 1, 3, 0, 0, 1, 1000, 0, 77, 0, 1000, 6, 'x', '-', 'o',
            '+', '!', 'e', 1000, 0};
        long h = 449;
        for (long v : ahead) {
            h = 31 * h + v;
        }
        for (int age = 0; age < 160; age++) {
            h = 31 * h + (age == 44 ? -5 : 0);
        }
        long[] behind = {3, 2, 1, 1, 1, 6, 3, 4};
        for (long v : behind) {
            h = 31 * h + v;
        }
        due("digest", x.digest(), h);
        due("again", x.digest(), h);
    }
}
