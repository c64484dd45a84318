/** The promises of the document, one by one: ordinary inputs, edges and refusals. */
public final class PromiseTest {
    private static final int NONE = -1, BAD = -2, NOT = -3, FULL = -4;
    private static final int NULL = -11, INDEX = -12, CAST = -13, STORE = -14, SIZE = -15;
    private static final int LEAST = Integer.MIN_VALUE;
    private static final long LONG_BAD = Long.MIN_VALUE + 2, LONG_NOT = Long.MIN_VALUE + 3;
    private static int wrong = 0;

    private static void due(int promise, String call, long got, long want) {
        if (got != want) {
            wrong++;
            System.out.println("promise " + promise + ": " + call + " answered " + got + ", due is " + want);
        }
    }

    private static void text(GraveOrder x, String line) {
        for (int i = 0; i < line.length(); i++) {
            x.type(line.charAt(i));
        }
    }

    private static GraveOrder graves(int n) {
        GraveOrder x = new GraveOrder();
        for (int g = 0; g < n; g++) {
            x.grave(0, 99);
        }
        return x;
    }

    private static GraveOrder graves(int n, String... lines) {
        GraveOrder x = graves(n);
        for (String line : lines) {
            text(x, line);
            x.tell(0);
        }
        return x;
    }

    /** Two graves of which each lies over the other one: no order can be. */
    private static GraveOrder noOrder() {
        GraveOrder x = graves(2, "0:0,1;1:0");
        x.over(0, 1);
        x.over(1, 0);
        return x;
    }

    private static void order(GraveOrder x, int s, int... items) {
        x.sheet(s, 0, items.length);
        for (int i = 0; i < items.length; i++) {
            x.put(s, 0, i, items[i]);
        }
    }

    private static void promise1() {
        GraveOrder x = new GraveOrder();
        for (int what = 0; what <= 8; what++) {
            due(1, "count(" + what + ")", x.count(what), what == 6 ? 999 : 0);
        }
        for (int s = 0; s < 4; s++) {
            due(1, "lose(" + s + ")", x.lose(s), NULL);
        }
        due(1, "best(1) without graves", x.best(1), 1);
        new GraveOrder().grave(1, 2);
        due(1, "count(0), another object has a grave", x.count(0), 0);
    }

    private static void promise2() {
        GraveOrder x = new GraveOrder();
        due(2, "grave(-1, 5)", x.grave(-1, 5), BAD);
        due(2, "grave(5, 4)", x.grave(5, 4), BAD);
        due(2, "grave(0, 100)", x.grave(0, 100), BAD);
        due(2, "grave(100, 100)", x.grave(100, 100), BAD);
        due(2, "count(0) after refusals", x.count(0), 0);
        due(2, "grave(0, 0)", x.grave(0, 0), 0);
        due(2, "grave(99, 99)", x.grave(99, 99), 1);
        for (int g = 2; g < 8; g++) {
            due(2, "grave(0, 99)", x.grave(0, 99), g);
        }
        due(2, "grave(3, 4) of eight", x.grave(3, 4), FULL);
        due(2, "grave(4, 3) of eight", x.grave(4, 3), BAD);
        due(2, "count(0)", x.count(0), 8);
    }

    private static void promise3() {
        GraveOrder x = graves(3, "0:0;2:0");
        x.over(1, 0);
        x.over(2, 1);
        due(3, "best(0)", x.best(0), 1);
        due(3, "robbed(1, 1)", x.robbed(1, 1), 0);
        due(3, "best(0), the gap's grave robbed", x.best(0), 0);
        due(3, "robbed(1, 1) again", x.robbed(1, 1), 1);
        due(3, "robbed(2, 1)", x.robbed(2, 1), 0);
        due(3, "count(7)", x.count(7), 6);
        due(3, "robbed(1, 0)", x.robbed(1, 0), 1);
        due(3, "best(0), robbed no more", x.best(0), 1);
        due(3, "robbed(3, 0)", x.robbed(3, 0), BAD);
        due(3, "robbed(-1, 0)", x.robbed(-1, 0), BAD);
        due(3, "robbed(0, 2)", x.robbed(0, 2), BAD);
        due(3, "robbed(0, -1)", x.robbed(0, -1), BAD);
        due(3, "count(7) after refusals", x.count(7), 4);
    }

    private static void promise4() {
        GraveOrder x = graves(3, "0:0,9;2:0,9");
        x.over(1, 0);
        x.over(2, 1);
        due(4, "best(0)", x.best(0), 2);
        due(4, "weight(9, 3)", x.weight(9, 3), 1);
        due(4, "best(0) of weights 1, 3", x.best(0), 4);
        due(4, "weight(9, 0)", x.weight(9, 0), 3);
        due(4, "best(0) of weights 1, 0", x.best(0), 1);
        due(4, "weight(9, 2)", x.weight(9, 2), 0);
        due(4, "weight(9, 2)", x.weight(9, 2), 2);
        due(4, "weight(10, 0)", x.weight(10, 0), BAD);
        due(4, "weight(-1, 0)", x.weight(-1, 0), BAD);
        due(4, "weight(0, 4)", x.weight(0, 4), BAD);
        due(4, "weight(0, -1)", x.weight(0, -1), BAD);
        due(4, "best(0) after refusals", x.best(0), 3);
    }

    private static void promise5() {
        GraveOrder x = graves(3);
        due(5, "over(0, 0)", x.over(0, 0), BAD);
        due(5, "over(0, 3)", x.over(0, 3), BAD);
        due(5, "over(3, 0)", x.over(3, 0), BAD);
        due(5, "over(-1, 0)", x.over(-1, 0), BAD);
        due(5, "count(4)", x.count(4), 0);
        due(5, "over(0, 2)", x.over(0, 2), 1);
        due(5, "first(0), grave 2 ahead of 0", x.first(0), 1);
        due(5, "sure(2, 0)", x.sure(2, 0), 1);
        due(5, "best(1)", x.best(1), 3);
        for (int i = 2; i <= 16; i++) {
            due(5, "over(0, 2) again", x.over(0, 2), i);
        }
        due(5, "over(1, 2), the 17th", x.over(1, 2), FULL);
        due(5, "over(1, 1), the 17th", x.over(1, 1), BAD);
        due(5, "count(4)", x.count(4), 16);
        due(5, "best(1) after refusals", x.best(1), 3);
    }

    private static void promise6() {
        GraveOrder x = graves(1);
        due(6, "type(-1)", x.type(-1), BAD);
        due(6, "type(256)", x.type(256), BAD);
        for (int i = 1; i <= 40; i++) {
            due(6, "type of byte " + i, x.type(i == 1 ? 255 : 0), i);
        }
        due(6, "type(0), the 41st", x.type(0), FULL);
        due(6, "type(256), the 41st", x.type(256), BAD);
        due(6, "count(5)", x.count(5), 40);
    }

    private static void promise7() {
        GraveOrder x = graves(1);
        due(7, "wipe() of an empty line", x.wipe(), 0);
        text(x, "0:x");
        due(7, "wipe()", x.wipe(), 3);
        due(7, "count(5)", x.count(5), 0);
        text(x, "0:1");
        due(7, "fault() of a line typed after wipe()", x.fault(), NONE);
    }

    private static int faultOf(int n, String line) {
        GraveOrder x = graves(n);
        text(x, line);
        return x.fault();
    }

    private static void promise8() {
        String[] lines = {"", "0", "0:", "0:-", "0:1", "0:1,", "0:1;", "0:1,-2;1:3", "2:1", "0:1;2:1", "x", "-",
            "00", "0;", "0:,", "0:--1", "0:-,", "0:11", "0:1:", "0:1,;", "0:1;;", "0:1;1", "0:1 ", " 0:1", "0:1,a"};
        int[] faults = {0, 1, 2, 3, NONE, 4, 4, NONE, 0, 4, 0, 0,
            1, 1, 2, 3, 3, 3, 3, 4, 4, 5, 3, 0, 4};
        for (int i = 0; i < lines.length; i++) {
            due(8, "fault() of '" + lines[i] + "'", faultOf(2, lines[i]), faults[i]);
        }
        due(8, "fault() of '0:1' without graves", faultOf(0, "0:1"), 0);
        due(8, "fault() of '7:9' with eight graves", faultOf(8, "7:9"), NONE);
        due(8, "fault() of '8:9' with eight graves", faultOf(8, "8:9"), 0);
        String longest = "0:1,1,1,1,1,1,1,1,1,1,1,1,1,1,1,1,1,1,-1";
        due(8, "fault() of 40 bytes", faultOf(1, longest), NONE);
        GraveOrder x = graves(1);
        text(x, "0:1" + (char) (48 + 256));
        due(8, "fault(), the last byte was refused", x.fault(), NONE);
        x.type(200);
        due(8, "fault() at byte 200", x.fault(), 3);
    }

    private static void promise9() {
        GraveOrder x = graves(2);
        due(9, "tell(0) of an empty line", x.tell(0), NOT);
        due(9, "tell(-1)", x.tell(-1), BAD);
        due(9, "tell(1000)", x.tell(1000), BAD);
        text(x, "0:1,2;1:-2,3");
        due(9, "tell(1000) of a good line", x.tell(1000), BAD);
        due(9, "count(5), refused", x.count(5), 12);
        due(9, "tell(5)", x.tell(5), 4);
        due(9, "count(5), told", x.count(5), 0);
        due(9, "count(1)", x.count(1), 4);
        due(9, "has(0)", x.has(0), 6);
        due(9, "has(1)", x.has(1), 8);
        text(x, "0:-1;0:3,-3,3;");
        due(9, "tell(6) of a line with a fault", x.tell(6), NOT);
        due(9, "tell(4), before the one before", x.tell(4), BAD);
        due(9, "count(5), refused", x.count(5), 14);
        x.wipe();
        text(x, "0:-1;0:3,-3,3");
        due(9, "tell(5), as the one before", x.tell(5), 4);
        due(9, "has(0)", x.has(0), 12);
        due(9, "count(1)", x.count(1), 8);
        for (int i = 0; i < 5; i++) {
            text(x, "1:0,1,2,3,4,5,6,7,8,9");
            due(9, "tell(7) of ten kinds", x.tell(7), 10);
        }
        text(x, "0:9,8,7");
        due(9, "tell(999) with room for two", x.tell(999), 2);
        due(9, "has(0)", x.has(0), 12 + 512 + 256);
        text(x, "0:0");
        due(9, "tell(999) without room", x.tell(999), 0);
        due(9, "count(5), told without room", x.count(5), 0);
        due(9, "count(1)", x.count(1), 60);
        GraveOrder y = graves(1);
        text(y, "0:1,1,1,1,1,1,1,1,1,1,1,1,1,1,1,1,1,1,-1");
        due(9, "count(5), a line of 40 bytes", y.count(5), 40);
        due(9, "tell(0) of 40 bytes", y.tell(0), 19);
        due(9, "has(0)", y.has(0), 0);
        tellLeavesNoTimeIfNothingIsTold();
    }

    /** Once the sixty tellings are there, a good line tells nothing and leaves no time that binds. */
    private static void tellLeavesNoTimeIfNothingIsTold() {
        GraveOrder x = graves(1);
        due(9, "tell(7) of an empty line", x.tell(7), NOT);
        text(x, "0:0");
        due(9, "tell(3) after a refused tell(7)", x.tell(3), 1);
        for (int i = 0; i < 5; i++) {
            text(x, "0:0,1,2,3,4,5,6,7,8,9");
            x.tell(4);
        }
        text(x, "0:0,1,2,3,4,5,6,7");
        due(9, "tell(5) of eight kinds", x.tell(5), 8);
        text(x, "0:-0,-1");
        due(9, "tell(20) with room for one", x.tell(20), 1);
        text(x, "0:3");
        due(9, "tell(500) without room", x.tell(500), 0);
        text(x, "0:3");
        due(9, "tell(19), before the one that told one", x.tell(19), BAD);
        due(9, "tell(20) after one at 500 that told nothing", x.tell(20), 0);
        due(9, "tell(19) of an empty line", x.tell(19), BAD);
        due(9, "tell(20) of an empty line", x.tell(20), NOT);
        x.sheet(0, 0, 1);
        due(9, "read(0, 0, 19)", x.read(0, 0, 19), BAD);
        due(9, "read(0, 0, 20)", x.read(0, 0, 20), 0);
        x.asOf(19);
        due(9, "has(0) as of 19", x.has(0), 1023);
        x.asOf(20);
        due(9, "has(0) as of 20", x.has(0), 1022);
    }

    private static void promise10() {
        GraveOrder x = graves(2);
        due(10, "read(0, 0, 0) of a lost sheet", x.read(0, 0, 0), NULL);
        due(10, "count(8)", x.count(8), 1);
        order(x, 0, 1, 0, 1, 2, 1);
        due(10, "read(4, 0, 0)", x.read(4, 0, 0), BAD);
        due(10, "read(-1, 0, 0)", x.read(-1, 0, 0), BAD);
        due(10, "read(0, 2, 0)", x.read(0, 2, 0), BAD);
        due(10, "read(0, 0, -1)", x.read(0, 0, -1), BAD);
        due(10, "read(0, 0, 1000)", x.read(0, 0, 1000), BAD);
        due(10, "read(1, 0, 1000) of a lost sheet", x.read(1, 0, 1000), BAD);
        due(10, "count(1) after refusals", x.count(1), 0);
        due(10, "read(0, 1, 9)", x.read(0, 1, 9), 3);
        due(10, "has(1)", x.has(1), 5);
        due(10, "read(0, 1, 8)", x.read(0, 1, 8), BAD);
        due(10, "tell(8)", x.tell(8), BAD);
        order(x, 0, 0);
        due(10, "read(0, 1, 9)", x.read(0, 1, 9), 1);
        due(10, "has(1), kind 0 after all not", x.has(1), 4);
        order(x, 0, -1, 1);
        due(10, "read(0, 0, 9), none is 0 or 1", x.read(0, 0, 9), 0);
        x.sheet(0, 2, 0);
        due(10, "read(0, 0, 9) of no items", x.read(0, 0, 9), 0);
        order(x, 0, 1, 1, 1, 1, 1, 1, 1, 1, 1, 1, 1, 1);
        due(10, "read(0, 0, 9) of twelve items", x.read(0, 0, 9), 10);
        due(10, "has(0)", x.has(0), 1023);
        for (int i = 0; i < 4; i++) {
            due(10, "read(0, 1, 10)", x.read(0, 1, 10), 10);
        }
        due(10, "read(0, 1, 10) with room for six", x.read(0, 1, 10), 6);
        due(10, "read(0, 1, 10) without room", x.read(0, 1, 10), 0);
        due(10, "count(1)", x.count(1), 60);
        due(10, "read(0, 1, 700) without room", x.read(0, 1, 700), 0);
        due(10, "read(0, 1, 10) after one at 700 that told nothing", x.read(0, 1, 10), 0);
        due(10, "read(0, 1, 9), before the last telling", x.read(0, 1, 9), BAD);
        readLeavesNoTimeIfNothingIsTold();
    }

    private static void readLeavesNoTimeIfNothingIsTold() {
        GraveOrder x = graves(2);
        x.sheet(1, 0, 0);
        due(10, "read(1, 0, 3) of no items", x.read(1, 0, 3), 0);
        due(10, "tell(0) of an empty line after it", x.tell(0), NOT);
        order(x, 2, 2, 1);
        due(10, "read(2, 0, 999), item 0 is neither", x.read(2, 0, 999), 0);
        due(10, "read(3, 0, 999) of a lost sheet", x.read(3, 0, 999), NULL);
        order(x, 0, 1, 1);
        due(10, "read(0, 0, 2) after three that told nothing", x.read(0, 0, 2), 2);
        due(10, "read(1, 0, 8) of no items", x.read(1, 0, 8), 0);
        due(10, "read(1, 0, 1), before the last telling", x.read(1, 0, 1), BAD);
        due(10, "read(1, 0, 2), as the last telling", x.read(1, 0, 2), 0);
        text(x, "1:5");
        due(10, "tell(1), before the last telling", x.tell(1), BAD);
        due(10, "tell(2), as the last telling", x.tell(2), 1);
        due(10, "has(1)", x.has(1), 32);
    }

    private static void promise11() {
        GraveOrder x = graves(1);
        text(x, "0:1");
        x.tell(10);
        text(x, "0:2,-1");
        x.tell(20);
        due(11, "asOf(9)", x.asOf(9), 999);
        due(11, "has(0) as of 9", x.has(0), 0);
        due(11, "asOf(10)", x.asOf(10), 9);
        due(11, "has(0) as of 10", x.has(0), 2);
        due(11, "asOf(19)", x.asOf(19), 10);
        due(11, "has(0) as of 19", x.has(0), 2);
        due(11, "asOf(-1)", x.asOf(-1), BAD);
        due(11, "asOf(1000)", x.asOf(1000), BAD);
        due(11, "count(6)", x.count(6), 19);
        due(11, "asOf(20)", x.asOf(20), 19);
        due(11, "has(0) as of 20", x.has(0), 4);
        due(11, "asOf(0)", x.asOf(0), 20);
        due(11, "asOf(999)", x.asOf(999), 0);
        GraveOrder y = graves(3, "0:0;2:0");
        y.over(1, 0);
        y.over(2, 1);
        text(y, "1:0");
        y.tell(5);
        due(11, "best(0)", y.best(0), 0);
        y.asOf(4);
        due(11, "best(0) as of 4", y.best(0), 1);
    }

    private static void promise12() {
        GraveOrder x = graves(2, "1:0,9");
        due(12, "has(0)", x.has(0), 0);
        due(12, "has(1)", x.has(1), 513);
        due(12, "has(2)", x.has(2), BAD);
        due(12, "has(-1)", x.has(-1), BAD);
    }

    private static void promise13() {
        GraveOrder x = graves(3, "0:0;2:0;1:1");
        x.weight(0, 2);
        x.over(1, 0);
        due(13, "gaps(0, 0) of a lost sheet", x.gaps(0, 0), NULL);
        due(13, "gaps(4, 0)", x.gaps(4, 0), BAD);
        due(13, "gaps(-1, 0)", x.gaps(-1, 0), BAD);
        due(13, "gaps(0, 2)", x.gaps(0, 2), BAD);
        due(13, "gaps(0, -1)", x.gaps(0, -1), BAD);
        order(x, 0, 0, 1, 2);
        due(13, "gaps(0, 0) of 0 1 2", x.gaps(0, 0), 2);
        due(13, "gaps(0, 1) of 0 1 2", x.gaps(0, 1), 1);
        order(x, 0, 1, 0, 2);
        due(13, "gaps(0, 0) of 1 0 2", x.gaps(0, 0), 0);
        due(13, "gaps(0, 1) of 1 0 2", x.gaps(0, 1), 0);
        order(x, 0, 0, 1);
        due(13, "gaps(0, 0) of 0 1", x.gaps(0, 0), NOT);
        order(x, 0, 0, 1, 1);
        due(13, "gaps(0, 0) of 0 1 1", x.gaps(0, 0), NOT);
        order(x, 0, 0, 1, 3);
        due(13, "gaps(0, 0) of 0 1 3", x.gaps(0, 0), NOT);
        order(x, 0, 0, 1, -1);
        due(13, "gaps(0, 1) of 0 1 -1", x.gaps(0, 1), NOT);
        order(x, 0, 0, 1, 2, 0);
        due(13, "gaps(0, 1) of 0 1 2 0", x.gaps(0, 1), NOT);
        x.robbed(1, 1);
        order(x, 0, 0, 1, 2);
        due(13, "gaps(0, 0), grave 1 robbed", x.gaps(0, 0), 0);
        GraveOrder y = new GraveOrder();
        y.sheet(1, 2, 0);
        due(13, "gaps(1, 0) without graves", y.gaps(1, 0), 0);
        due(13, "gaps(1, 1) without graves", y.gaps(1, 1), 1);
        y.grave(10, 20);
        y.grave(0, 9);
        order(y, 1, 0, 1);
        due(13, "gaps(1, 1), years fall", y.gaps(1, 1), 0);
        order(y, 1, 1, 0);
        due(13, "gaps(1, 1), years rise", y.gaps(1, 1), 1);
    }

    private static void promise14() {
        GraveOrder x = graves(3, "0:0,1;1:1,2;2:2");
        due(14, "best(0)", x.best(0), 0);
        due(14, "best(1)", x.best(1), 2);
        due(14, "best(2)", x.best(2), 1);
        x.over(0, 2);
        due(14, "best(1), one is over", x.best(1), 1);
        due(14, "best(2), one is over", x.best(2), 0);
        due(14, "best(3)", x.best(3), BAD);
        due(14, "best(-1)", x.best(-1), BAD);
        due(14, "best(0), none can be", noOrder().best(0), NOT);
        due(14, "best(1), none can be", noOrder().best(1), NOT);
        due(14, "best(2), none can be", noOrder().best(2), NOT);
        due(14, "best(3), none can be", noOrder().best(3), BAD);
        due(14, "best(1) of eight like graves", graves(8).best(1), 40320);
        GraveOrder y = new GraveOrder();
        y.grave(5, 5);
        y.grave(5, 6);
        due(14, "best(1), the same year is enough", y.best(1), 2);
        y.grave(4, 4);
        due(14, "best(1), one surely ahead", y.best(1), 2);
        y.grave(0, 99);
        y.over(2, 0);
        due(14, "best(1), years against over", y.best(1), NOT);
    }

    private static void promise15() {
        GraveOrder x = graves(3, "2:0,1;0:1,2;1:2");
        due(15, "first(0)", x.first(0), 1);
        due(15, "first(1)", x.first(1), 0);
        due(15, "first(2)", x.first(2), 2);
        due(15, "first(3)", x.first(3), NONE);
        due(15, "first(the greatest)", x.first(Integer.MAX_VALUE), NONE);
        due(15, "first(-1)", x.first(-1), BAD);
        due(15, "first(0), none can be", noOrder().first(0), NOT);
        due(15, "first(9), none can be", noOrder().first(9), NOT);
        due(15, "first(-1), none can be", noOrder().first(-1), BAD);
        due(15, "first(0) without graves", new GraveOrder().first(0), NONE);
    }

    private static void promise16() {
        GraveOrder x = graves(3, "0:0;1:0;2:1");
        x.over(1, 0);
        due(16, "sure(0, 1)", x.sure(0, 1), 1);
        due(16, "sure(1, 0)", x.sure(1, 0), 0);
        due(16, "sure(0, 2)", x.sure(0, 2), 0);
        due(16, "sure(2, 0)", x.sure(2, 0), 0);
        x.over(2, 0);
        due(16, "sure(1, 2), 0 2 1 is not best", x.sure(1, 2), 1);
        due(16, "sure(1, 1)", x.sure(1, 1), BAD);
        due(16, "sure(0, 3)", x.sure(0, 3), BAD);
        due(16, "sure(3, 0)", x.sure(3, 0), BAD);
        due(16, "sure(-1, 0)", x.sure(-1, 0), BAD);
        due(16, "sure(0, 1), none can be", noOrder().sure(0, 1), NOT);
        due(16, "sure(0, 0), none can be", noOrder().sure(0, 0), BAD);
    }

    private static void promise17() {
        GraveOrder x = graves(3, "0:0,1;1:1,2;2:2");
        due(17, "places(0)", x.places(0), 5);
        due(17, "places(1)", x.places(1), 2);
        due(17, "places(2)", x.places(2), 5);
        x.over(2, 1);
        due(17, "places(2), over 1", x.places(2), 4);
        due(17, "places(3)", x.places(3), BAD);
        due(17, "places(-1)", x.places(-1), BAD);
        due(17, "places(0), none can be", noOrder().places(0), NOT);
        due(17, "places(2), none can be", noOrder().places(2), BAD);
        due(17, "places(7) of eight like graves", graves(8).places(7), 255);
    }

    private static void promise18() {
        GraveOrder x = graves(3, "0:0;2:0");
        x.weight(0, 3);
        due(18, "spread(0, 0)", x.spread(0, 0), 4);
        due(18, "spread(2, 0)", x.spread(2, 0), 0);
        due(18, "spread(3, 0)", x.spread(3, 0), 2);
        due(18, "spread(2, 1)", x.spread(2, 1), 4);
        due(18, "spread(3, 1)", x.spread(3, 1), 6);
        due(18, "spread(999, 0)", x.spread(999, 0), 0);
        due(18, "spread(999, 1)", x.spread(999, 1), 6);
        x.over(1, 0);
        due(18, "spread(999, 1), one is over", x.spread(999, 1), 3);
        due(18, "spread(1000, 0)", x.spread(1000, 0), BAD);
        due(18, "spread(-1, 0)", x.spread(-1, 0), BAD);
        due(18, "spread(0, 2)", x.spread(0, 2), BAD);
        due(18, "spread(0, -1)", x.spread(0, -1), BAD);
        due(18, "spread(999, 1), none can be", noOrder().spread(999, 1), 0);
        due(18, "spread(0, 0), none can be", noOrder().spread(0, 0), 0);
        due(18, "spread(0, 1) without graves", new GraveOrder().spread(0, 1), 1);
        GraveOrder most = graves(8, "0:0,1,2,3,4,5,6,7,8,9", "7:0,1,2,3,4,5,6,7,8,9");
        for (int k = 0; k < 10; k++) {
            most.weight(k, 3);
        }
        due(18, "spread(180, 0)", most.spread(180, 0), 1440);
        due(18, "spread(179, 1)", most.spread(179, 1), 40320 - 1440);
        due(18, "spread(180, 1)", most.spread(180, 1), 40320);
        due(19, "mean(0) of up to 180 gaps", most.mean(0), 60);
        due(19, "mean(1) of up to 180 gaps", most.mean(1), 1);
        most.weight(0, 0);
        due(18, "spread(180, 0), kind 0 without weight", most.spread(180, 0), 0);
        due(18, "spread(162, 0), kind 0 without weight", most.spread(162, 0), 1440);
    }

    private static void promise19() {
        GraveOrder x = graves(3, "0:0;2:0");
        due(19, "mean(0)", x.mean(0), 1);
        due(19, "mean(1)", x.mean(1), 3);
        x.weight(0, 3);
        due(19, "mean(0) of weight 3", x.mean(0), 1);
        due(19, "mean(1) of weight 3", x.mean(1), 1);
        x.weight(0, 0);
        due(19, "mean(0) of weight 0", x.mean(0), 0);
        due(19, "mean(1) of weight 0", x.mean(1), 1);
        due(19, "mean(2)", x.mean(2), LONG_BAD);
        due(19, "mean(-1)", x.mean(-1), LONG_BAD);
        due(19, "mean(0), none can be", noOrder().mean(0), LONG_NOT);
        due(19, "mean(2), none can be", noOrder().mean(2), LONG_BAD);
        due(19, "mean(1) without graves", new GraveOrder().mean(1), 1);
    }

    private static void promise20() {
        GraveOrder x = graves(3, "0:0,2;1:1;2:0,2");
        x.over(1, 0);
        x.over(2, 1);
        due(20, "leftOut()", x.leftOut(), 5);
        x.weight(2, 0);
        due(20, "leftOut(), kind 2 without weight", x.leftOut(), 1);
        x.robbed(1, 1);
        due(20, "leftOut(), grave 1 robbed", x.leftOut(), 0);
        GraveOrder y = graves(3, "0:4,5,8,9;1:4,5,7;2:7,8,9");
        due(20, "leftOut(), the one that lies across two pairs", y.leftOut(), 128);
        y.weight(7, 0);
        due(20, "leftOut(), kind 7 without weight", y.leftOut(), 0);
        GraveOrder z = graves(4, "0:6;1:6;2:3;3:3");
        z.over(2, 0);
        z.over(1, 2);
        z.over(1, 3);
        due(20, "leftOut(), grave 2 always stands between 0 and 1", z.leftOut(), 64);
        due(20, "leftOut(), none can be", noOrder().leftOut(), NOT);
        due(20, "leftOut() without graves", new GraveOrder().leftOut(), 0);
        GraveOrder like = graves(3, "0:0,1;1:1,2;2:0,2");
        due(20, "leftOut(), the least of three like ones", like.leftOut(), 1);
    }

    /** Eight graves that stand as they are told, the ones told having kind 3. */
    private static GraveOrder row(int kept) {
        GraveOrder x = graves(8);
        for (int g = 0; g < 7; g++) {
            x.over(g + 1, g);
        }
        for (int g = 0; g < 8; g++) {
            if ((kept >> g & 1) == 1) {
                text(x, g + ":3");
                x.tell(0);
            }
        }
        return x;
    }

    private static void promise21() {
        due(21, "mended(3) of none", row(0).mended(3), 0);
        due(21, "mended(3) of 01110", row(0b01110).mended(3), 0);
        due(21, "mended(3) of 10001", row(0b10001).mended(3), 1);
        due(21, "mended(3) of 110001", row(0b100011).mended(3), 1);
        due(21, "mended(3) of 1101100", row(0b0011011).mended(3), 1);
        due(21, "mended(3) of 11001011", row(0b11010011).mended(3), 3);
        due(21, "mended(3) of 10010001", row(0b10001001).mended(3), 2);
        GraveOrder x = row(0b11010011);
        x.robbed(2, 1);
        due(21, "mended(3), one gap is a robbed grave", x.mended(3), 2);
        x.robbed(7, 1);
        due(21, "mended(3), a find in a robbed grave stays one", x.mended(3), 2);
        x.weight(3, 0);
        due(21, "mended(3), without weight", x.mended(3), 2);
        due(21, "mended(10)", x.mended(10), BAD);
        due(21, "mended(-1)", x.mended(-1), BAD);
        due(21, "mended(0), none can be", noOrder().mended(0), NOT);
        due(21, "mended(10), none can be", noOrder().mended(10), BAD);
        due(21, "mended(9) without graves", new GraveOrder().mended(9), 0);
    }

    private static void promise22() {
        GraveOrder x = graves(4, "0:0,1;1:1;2:1,2;3:2,3");
        for (int g = 0; g < 3; g++) {
            x.over(g + 1, g);
        }
        due(22, "phases(1, NONE)", x.phases(1, NONE), 0);
        due(22, "phases(2, NONE)", x.phases(2, NONE), 1);
        int[] two = {0, 1, 1, 1};
        int[] three = {0, 1, 2, 2};
        for (int g = 0; g < 4; g++) {
            due(22, "phases(1, " + g + ")", x.phases(1, g), 0);
            due(22, "phases(2, " + g + ")", x.phases(2, g), two[g]);
            due(22, "phases(3, " + g + ")", x.phases(3, g), three[g]);
            due(22, "phases(4, " + g + ")", x.phases(4, g), g);
        }
        due(22, "phases(3, NONE)", x.phases(3, NONE), 2);
        due(22, "phases(4, NONE)", x.phases(4, NONE), 3);
        x.weight(1, 3);
        due(22, "phases(2, NONE), kind 1 of weight 3", x.phases(2, NONE), 1);
        due(22, "phases(2, 2), kind 1 of weight 3", x.phases(2, 2), 0);
        due(22, "phases(2, 3), kind 1 of weight 3", x.phases(2, 3), 1);
        due(22, "phases(5, NONE)", x.phases(5, NONE), NOT);
        due(22, "phases(5, 4)", x.phases(5, 4), BAD);
        due(22, "phases(0, 0)", x.phases(0, 0), BAD);
        due(22, "phases(9, 0)", x.phases(9, 0), BAD);
        due(22, "phases(1, 4)", x.phases(1, 4), BAD);
        due(22, "phases(1, -2)", x.phases(1, -2), BAD);
        due(22, "phases(1, 0), none can be", noOrder().phases(1, 0), NOT);
        due(22, "phases(1, NONE) without graves", new GraveOrder().phases(1, NONE), NOT);
        due(22, "phases(8, 7) of eight", graves(8).phases(8, 7), 7);
        due(22, "phases(2, 1) of eight like graves", graves(8).phases(2, 1), 1);
    }

    private static void promise23() {
        GraveOrder x = new GraveOrder();
        x.grave(10, 50);
        x.grave(5, 60);
        x.grave(0, 30);
        x.over(1, 0);
        x.over(2, 1);
        text(x, "0:0;1:0;2:0,1");
        x.tell(0);
        int[] least = {10, 10, 10};
        int[] greatest = {30, 30, 30};
        for (int g = 0; g < 3; g++) {
            due(23, "years(0, " + g + ", 0)", x.years(0, g, 0), least[g]);
            due(23, "years(0, " + g + ", 1)", x.years(0, g, 1), greatest[g]);
        }
        x.grave(20, 90);
        x.over(3, 2);
        text(x, "3:0,2");
        x.tell(0);
        due(23, "years(0, 3, 0)", x.years(0, 3, 0), 20);
        due(23, "years(0, 3, 1)", x.years(0, 3, 1), 90);
        due(23, "years(1, 0, 0)", x.years(1, 0, 0), 10);
        due(23, "years(1, 0, 1)", x.years(1, 0, 1), 90);
        due(23, "years(1, 1, 1)", x.years(1, 1, 1), 30);
        due(23, "years(1, 2, 0)", x.years(1, 2, 0), 20);
        due(23, "years(1, 3, 0), none has it", x.years(1, 3, 0), NOT);
        due(23, "years(2, 0, 0)", x.years(2, 0, 0), BAD);
        due(23, "years(-1, 0, 0)", x.years(-1, 0, 0), BAD);
        due(23, "years(0, 4, 0)", x.years(0, 4, 0), BAD);
        due(23, "years(0, -1, 0)", x.years(0, -1, 0), BAD);
        due(23, "years(1, 10, 0)", x.years(1, 10, 0), BAD);
        due(23, "years(1, -1, 0)", x.years(1, -1, 0), BAD);
        due(23, "years(0, 0, 2)", x.years(0, 0, 2), BAD);
        due(23, "years(1, 3, -1)", x.years(1, 3, -1), BAD);
        GraveOrder y = new GraveOrder();
        y.grave(0, 0);
        text(y, "0:4");
        y.tell(0);
        due(23, "years(1, 4, 1), the year 0", y.years(1, 4, 1), 0);
        GraveOrder z = new GraveOrder();
        z.grave(99, 99);
        text(z, "0:4");
        z.tell(0);
        due(23, "years(1, 4, 0), the year 99", z.years(1, 4, 0), 99);
        due(23, "years(0, 0, 0), none can be", noOrder().years(0, 0, 0), NOT);
        due(23, "years(1, 0, 0), none can be", noOrder().years(1, 0, 0), NOT);
        due(23, "years(0, 2, 0), none can be", noOrder().years(0, 2, 0), BAD);
    }

    private static void promise24() {
        GraveOrder x = graves(3, "0:0;1:0,1;2:1");
        x.over(1, 0);
        x.over(2, 1);
        due(24, "fresh(1, 0)", x.fresh(1, 0), 3);
        due(24, "fresh(1, 1)", x.fresh(1, 1), 0);
        due(24, "fresh(2, 0)", x.fresh(2, 0), 12);
        due(24, "fresh(3, 0)", x.fresh(3, 0), 6);
        due(24, "fresh(0, 0)", x.fresh(0, 0), 9);
        due(24, "fresh(4, 0)", x.fresh(4, 0), 9);
        x.weight(1, 3);
        text(x, "0:2;2:2");
        x.tell(1);
        due(24, "fresh(2, 1), kind 2 has a gap in the first", x.fresh(2, 1), 1);
        due(24, "fresh(2, 0)", x.fresh(2, 0), 8);
        x.robbed(1, 1);
        due(24, "fresh(5, 1), grave 1 robbed", x.fresh(5, 1), 0);
        due(24, "fresh(5, 0)", x.fresh(5, 0), 3);
        due(24, "fresh(-1, 0)", x.fresh(-1, 0), BAD);
        due(24, "fresh(1024, 0)", x.fresh(1024, 0), BAD);
        due(24, "fresh(0, 2)", x.fresh(0, 2), BAD);
        due(24, "fresh(0, -1)", x.fresh(0, -1), BAD);
        due(24, "fresh(1, 0), none can be", noOrder().fresh(1, 0), NOT);
        due(24, "fresh(1023, 0) without graves", new GraveOrder().fresh(1023, 0), 1);
        due(24, "fresh(1023, 0) of eight", graves(8).fresh(1023, 0), 511);
        due(24, "fresh(0, 1), count(0) is the same", x.count(0), 3);
    }

    private static void promise25() {
        GraveOrder x = graves(4, "0:0,1,2;1:1,2,3;2:5");
        due(25, "alike(0, 1, 0)", x.alike(0, 1, 0), 1);
        due(25, "alike(0, 1, 1)", x.alike(0, 1, 1), 2);
        x.weight(1, 3);
        due(25, "alike(1, 0, 0), kind 1 of weight 3", x.alike(1, 0, 0), 2);
        due(25, "alike(1, 0, 1), kind 1 of weight 3", x.alike(1, 0, 1), 3);
        due(25, "alike(0, 2, 0)", x.alike(0, 2, 0), 0);
        due(25, "alike(0, 2, 1)", x.alike(0, 2, 1), 1);
        x.weight(5, 0);
        due(25, "alike(2, 3, 0), 0 by 0", x.alike(2, 3, 0), LONG_NOT);
        due(25, "alike(2, 3, 1), 0 by 0", x.alike(2, 3, 1), LONG_NOT);
        due(25, "alike(2, 3, 2), 0 by 0", x.alike(2, 3, 2), LONG_BAD);
        due(25, "alike(0, 0, 0)", x.alike(0, 0, 0), LONG_BAD);
        due(25, "alike(0, 4, 0)", x.alike(0, 4, 0), LONG_BAD);
        due(25, "alike(-1, 0, 0)", x.alike(-1, 0, 0), LONG_BAD);
        due(25, "alike(0, 1, -1)", x.alike(0, 1, -1), LONG_BAD);
        due(25, "alike(0, 1, 1), none can be", noOrder().alike(0, 1, 1), 2);
    }

    private static void promise26() {
        GraveOrder x = graves(4, "0:0,1;1:1;2:0");
        due(26, "nearest(0), of like ones the least", x.nearest(0), 1);
        due(26, "nearest(2)", x.nearest(2), 0);
        x.weight(0, 2);
        due(26, "nearest(0), kind 0 of weight 2", x.nearest(0), 2);
        due(26, "nearest(3), 0 by some", x.nearest(3), 0);
        due(26, "nearest(4)", x.nearest(4), BAD);
        due(26, "nearest(-1)", x.nearest(-1), BAD);
        GraveOrder y = graves(3);
        due(26, "nearest(0), all 0 by 0", y.nearest(0), NONE);
        due(26, "nearest(0) alone", graves(1, "0:1").nearest(0), NONE);
        due(26, "nearest(0), none can be", noOrder().nearest(0), 1);
    }

    private static void promise27() {
        GraveOrder x = new GraveOrder();
        due(27, "sheet(4, 0, 1)", x.sheet(4, 0, 1), BAD);
        due(27, "sheet(-1, 0, -1)", x.sheet(-1, 0, -1), BAD);
        due(27, "sheet(0, 3, -1)", x.sheet(0, 3, -1), BAD);
        due(27, "sheet(0, -1, 1)", x.sheet(0, -1, 1), BAD);
        due(27, "sheet(0, 0, 41)", x.sheet(0, 0, 41), BAD);
        due(27, "count(8), no finding", x.count(8), 0);
        due(27, "sheet(0, 0, -1)", x.sheet(0, 0, -1), SIZE);
        due(27, "count(8)", x.count(8), 5);
        due(27, "lose(0), still lost", x.lose(0), NULL);
        due(27, "sheet(0, 2, 40)", x.sheet(0, 2, 40), 40);
        x.put(0, 2, 0, 8);
        x.put(0, 2, 39, 7);
        due(27, "sheet(0, 2, the least)", x.sheet(0, 2, LEAST), SIZE);
        due(27, "get(0, 2, 39), kept", x.get(0, 2, 39), 7);
        due(27, "sheet(0, 2, 40) anew", x.sheet(0, 2, 40), 40);
        due(27, "get(0, 2, 0), 0 at first", x.get(0, 2, 0), 0);
        due(27, "get(0, 2, 39), 0 at first", x.get(0, 2, 39), 0);
        due(27, "sheet(3, 1, 0)", x.sheet(3, 1, 0), 0);
        due(27, "lose(3)", x.lose(3), 0);
    }

    private static void promise28() {
        GraveOrder x = new GraveOrder();
        due(28, "lose(4)", x.lose(4), BAD);
        due(28, "lose(-1)", x.lose(-1), BAD);
        due(28, "count(8)", x.count(8), 0);
        x.sheet(2, 0, 6);
        due(28, "lose(2)", x.lose(2), 6);
        due(28, "lose(2) again", x.lose(2), NULL);
        due(28, "count(8)", x.count(8), 1);
    }

    private static void promise29() {
        GraveOrder x = new GraveOrder();
        due(29, "put(4, 0, 0, 0)", x.put(4, 0, 0, 0), BAD);
        due(29, "put(0, 3, 0, 0)", x.put(0, 3, 0, 0), BAD);
        due(29, "put(0, -1, 0, 0)", x.put(0, -1, 0, 0), BAD);
        due(29, "put(0, 0, 0, 0) of a lost one", x.put(0, 0, 0, 0), NULL);
        x.sheet(0, 0, 2);
        x.sheet(1, 1, 2);
        x.sheet(2, 2, 2);
        due(29, "put(0, 1, 9, 0), another form first", x.put(0, 1, 9, 0), CAST);
        due(29, "count(8)", x.count(8), 3);
        due(29, "put(0, 0, 2, 0)", x.put(0, 0, 2, 0), INDEX);
        due(29, "put(0, 0, -1, 0)", x.put(0, 0, -1, 0), INDEX);
        due(29, "count(8)", x.count(8), 2);
        due(29, "put(0, 0, 1, 200)", x.put(0, 0, 1, 200), 1);
        due(29, "get(0, 0, 1)", x.get(0, 0, 1), -56);
        due(29, "put(1, 1, 0, 98304)", x.put(1, 1, 0, 98304), 1);
        due(29, "get(1, 1, 0)", x.get(1, 1, 0), -32768);
        due(29, "put(2, 2, 0, 98304)", x.put(2, 2, 0, 98304), 1);
        due(29, "get(2, 2, 0)", x.get(2, 2, 0), 98304);
        due(29, "get(2, 2, 1), beside it", x.get(2, 2, 1), 0);
    }

    private static void promise30() {
        GraveOrder x = new GraveOrder();
        due(30, "get(4, 0, 0)", x.get(4, 0, 0), LEAST);
        due(30, "get(-1, 0, 0)", x.get(-1, 0, 0), LEAST);
        due(30, "get(0, 3, 0)", x.get(0, 3, 0), LEAST);
        due(30, "count(8), BAD is no finding", x.count(8), 0);
        due(30, "get(0, 0, 0) of a lost one", x.get(0, 0, 0), LEAST);
        due(30, "count(8)", x.count(8), 1);
        x.sheet(0, 1, 3);
        x.put(0, 1, 2, -5);
        due(30, "get(0, 2, 9)", x.get(0, 2, 9), LEAST);
        due(30, "count(8)", x.count(8), 3);
        due(30, "get(0, 1, 3)", x.get(0, 1, 3), LEAST);
        due(30, "count(8)", x.count(8), 2);
        due(30, "get(0, 1, -1)", x.get(0, 1, -1), LEAST);
        due(30, "get(0, 1, 2)", x.get(0, 1, 2), -5);
    }

    private static void promise31() {
        GraveOrder x = new GraveOrder();
        due(31, "copy(4, 0, 0, 0, 0)", x.copy(4, 0, 0, 0, 0), BAD);
        due(31, "copy(0, 0, -1, 0, 0)", x.copy(0, 0, -1, 0, 0), BAD);
        due(31, "copy(0, 0, 1, 0, 0), both lost", x.copy(0, 0, 1, 0, 0), NULL);
        order(x, 0, 1, 2, 3, 4, 5);
        due(31, "copy(0, 0, 1, 0, 0), one lost", x.copy(0, 0, 1, 0, 0), NULL);
        due(31, "copy(1, 0, 0, 0, 0), one lost", x.copy(1, 0, 0, 0, 0), NULL);
        x.sheet(1, 1, 3);
        due(31, "copy(0, 9, 1, 0, 0), unlike forms", x.copy(0, 9, 1, 0, 0), STORE);
        due(31, "count(8)", x.count(8), 4);
        x.sheet(1, 0, 3);
        due(31, "copy(0, 2, 1, 0, 3)", x.copy(0, 2, 1, 0, 3), 1);
        due(31, "get(1, 0, 0)", x.get(1, 0, 0), 3);
        due(31, "get(1, 0, 2)", x.get(1, 0, 2), 5);
        due(31, "copy(0, 3, 1, 0, 3)", x.copy(0, 3, 1, 0, 3), INDEX);
        due(31, "copy(0, 0, 1, 1, 3)", x.copy(0, 0, 1, 1, 3), INDEX);
        due(31, "copy(0, -1, 1, 0, 1)", x.copy(0, -1, 1, 0, 1), INDEX);
        due(31, "copy(0, 0, 1, -1, 1)", x.copy(0, 0, 1, -1, 1), INDEX);
        due(31, "copy(0, 0, 1, 0, -1)", x.copy(0, 0, 1, 0, -1), INDEX);
        due(31, "copy of the greatest numbers", x.copy(0, 2147483647, 1, 2147483647, 2147483647), INDEX);
        due(31, "copy of the least number", x.copy(0, 0, 1, 0, LEAST), INDEX);
        due(31, "copy(0, 5, 1, 3, 0), at both ends", x.copy(0, 5, 1, 3, 0), 1);
        due(31, "copy(0, 6, 1, 0, 0)", x.copy(0, 6, 1, 0, 0), INDEX);
        due(31, "copy(0, 0, 1, 4, 0)", x.copy(0, 0, 1, 4, 0), INDEX);
        due(31, "copy(0, 0, 0, 1, 4), over itself", x.copy(0, 0, 0, 1, 4), 1);
        int[] then = {1, 1, 2, 3, 4};
        for (int i = 0; i < 5; i++) {
            due(31, "get(0, 0, " + i + ")", x.get(0, 0, i), then[i]);
        }
        x.copy(0, 2, 0, 1, 3);
        int[] back = {1, 2, 3, 4, 4};
        for (int i = 0; i < 5; i++) {
            due(31, "get(0, 0, " + i + "), back", x.get(0, 0, i), back[i]);
        }
    }

    private static void promise32() {
        GraveOrder x = graves(3, "2:0,1;0:1,2;1:2");
        due(32, "write(0) of a lost sheet", x.write(0), NULL);
        due(32, "write(4)", x.write(4), BAD);
        due(32, "write(-1)", x.write(-1), BAD);
        order(x, 0, 9, 9, 9, 9);
        due(32, "write(0)", x.write(0), 3);
        int[] then = {1, 0, 2, 9};
        for (int i = 0; i < 4; i++) {
            due(32, "get(0, 0, " + i + ")", x.get(0, 0, i), then[i]);
        }
        x.sheet(1, 2, 2);
        due(32, "write(1) of two items", x.write(1), 2);
        due(32, "get(1, 2, 0)", x.get(1, 2, 0), 1);
        x.sheet(1, 2, 0);
        due(32, "write(1) of no items", x.write(1), 0);
        GraveOrder y = noOrder();
        due(32, "write(0) of a lost sheet, none can be", y.write(0), NULL);
        order(y, 0, 7, 7);
        due(32, "write(0), none can be", y.write(0), NOT);
        due(32, "get(0, 0, 0), kept", y.get(0, 0, 0), 7);
    }

    private static void promise33() {
        GraveOrder x = graves(3, "0:0,1;1:1,9,-9");
        x.over(2, 1);
        x.robbed(0, 1);
        x.robbed(2, 1);
        text(x, "0:");
        x.asOf(500);
        x.lose(0);
        int[] counts = {3, 5, 3, 3, 1, 2, 500, 5, 1};
        for (int what = 0; what < 9; what++) {
            due(33, "count(" + what + ")", x.count(what), counts[what]);
        }
        due(33, "count(9)", x.count(9), BAD);
        due(33, "count(-1)", x.count(-1), BAD);
        x.lose(4);
        due(33, "count(8), BAD is no finding", x.count(8), 1);
    }

    private static long digestOf(long... all) {
        long h = 17;
        for (long a : all) {
            h = 31 * h + a;
        }
        return h;
    }

    private static void promise34() {
        long empty = digestOf(0, 0, 0, 0, 0, 0, 999, 0, 0, 0, 1, 1, 1, 0, 1, 0, NOT, 0, 0, 0, 0, 0, 0, 0, 0, 0, 0);
        due(34, "digest() of a new object", new GraveOrder().digest(), empty);
        GraveOrder x = noOrder();
        long none = digestOf(2, 3, 3, 3, 2, 0, 999, 0, 0, 3, NOT, NOT, NOT, NOT, 1, 1, NOT, NOT, NOT, NOT, 0,
            NOT, NOT, NOT, 0, LONG_NOT, LONG_NOT, NOT, NOT);
        long due = digestOf(2, 3, 3, 3, 2, 0, 999, 0, 0,
            3, NOT, NOT, NOT, NOT, 1,
            1, NOT, NOT, NOT, NOT, 0,
            NOT, NOT, NOT, 0, LONG_NOT, LONG_NOT, NOT, NOT,
            NOT, NOT, NOT, NOT, NOT, NOT, NOT, NOT, NOT, NOT);
        due(34, "digest(), none can be", x.digest(), due);
        due(34, "the digest has mended(), too", x.digest() == none ? 1 : 0, 0);
        x.lose(0);
        due(34, "digest() after a finding", x.digest(), due);
        due(34, "count(8) after digest()", x.count(8), 1);
        GraveOrder y = new GraveOrder();
        y.grave(3, 8);
        y.grave(5, 9);
        text(y, "0:0,1;1:1");
        y.tell(4);
        y.robbed(1, 1);
        due(34, "digest() of two graves", y.digest(), digestOf(2, 3, 3, 3, 0, 0, 999, 2, 0,
            3, 0, 3, 3, 8, 1,
            2, 1, 3, 5, 9, 0,
            0, 2, 1, 2, 0, 1, 0, 1,
            0, 0, 0, 0, 0, 0, 0, 0, 0, 0));
    }

    private static void constants() {
        due(0, "NONE", GraveOrder.NONE, -1);
        due(0, "BAD", GraveOrder.BAD, -2);
        due(0, "NOT", GraveOrder.NOT, -3);
        due(0, "FULL", GraveOrder.FULL, -4);
    }

    public static void main(String[] args) {
        constants();
        promise1();
        promise2();
        promise3();
        promise4();
        promise5();
        promise6();
        promise7();
        promise8();
        promise9();
        promise10();
        promise11();
        promise12();
        promise13();
        promise14();
        promise15();
        promise16();
        promise17();
        promise18();
        promise19();
        promise20();
        promise21();
        promise22();
        promise23();
        promise24();
        promise25();
        promise26();
        promise27();
        promise28();
        promise29();
        promise30();
        promise31();
        promise32();
        promise33();
        promise34();
        System.out.println(wrong == 0 ? "all promises hold" : wrong + " answers are not as promised");
        if (wrong != 0) {
            System.exit(1);
        }
    }
}
