/**
 * The promises 1 to 34: each sentence that names a boundary case or a refusal has a test of its own, which bears
 * its words; where two refusals fit, the test says which comes first.
 */
public final class EdgesTest extends Due {
    private static final String FIRST_THAT_FITS = "Refusals, the first that fits, in the order told at each act";

    private static void newObject() {
        says("Promise 1", "No GRAVES");
        GraveOrder x = new GraveOrder();
        due("count(0)", x.count(0), 0);
        due("has(0)", x.has(0), BAD);
        due("grave(0, 0), the first number", x.grave(0, 0), 0);
        due("count(0) of another object", new GraveOrder().count(0), 0);
        says("Promise 1", "all SHEETS are LOST");
        GraveOrder y = new GraveOrder();
        for (int s = 0; s < 4; s++) {
            due("lose(" + s + ")", y.lose(s), NULL);
            due("write(" + s + ")", y.write(s), NULL);
            due("gaps(" + s + ", 0)", y.gaps(s, 0), NULL);
        }
        says("Promise 1", "A new object");
        int[] counts = {0, 0, 0, 0, 0, 0, 999, 0, 0};
        for (int what = 0; what <= 8; what++) {
            due("count(" + what + ")", new GraveOrder().count(what), counts[what]);
        }
    }

    private static void grave() {
        says("Promise 2", "A GRAVE more: its number");
        GraveOrder x = new GraveOrder();
        due("grave(0, 0)", x.grave(0, 0), 0);
        due("grave(0, 0), a like one", x.grave(0, 0), 1);
        says("Promise 2", "BAD");
        due("grave(-1, 0)", x.grave(-1, 0), BAD);
        due("grave(0, 100)", x.grave(0, 100), BAD);
        due("grave(2, 1)", x.grave(2, 1), BAD);
        due("grave(3, 3), no number was lost", x.grave(3, 3), 2);
        says("Promise 2", "FULL");
        for (int g = 3; g < 8; g++) {
            due("grave(1, 2)", x.grave(1, 2), g);
        }
        due("grave(1, 2), the ninth", x.grave(1, 2), FULL);
        says("Promise 2", FIRST_THAT_FITS + ": BAD; FULL");
        due("grave(-1, 0), the ninth", x.grave(-1, 0), BAD);
        due("grave(0, 100), the ninth", x.grave(0, 100), BAD);
        due("grave(2, 1), the ninth", x.grave(2, 1), BAD);
    }

    private static void robbed() {
        says("Promise 3", "(v 0, 1): whether it was");
        GraveOrder x = graves(8);
        due("robbed(0, 0)", x.robbed(0, 0), 0);
        due("robbed(0, 1)", x.robbed(0, 1), 0);
        due("robbed(0, 1)", x.robbed(0, 1), 1);
        due("robbed(7, 1)", x.robbed(7, 1), 0);
        due("count(7)", x.count(7), 129);
        due("robbed(0, 0)", x.robbed(0, 0), 1);
        due("robbed(0, 0)", x.robbed(0, 0), 0);
        due("count(7)", x.count(7), 128);
        for (int g = 1; g < 8; g++) {
            x.robbed(g, 1);
            due("robbed(" + g + ", 0)", x.robbed(g, 0), 1);
            due("robbed(" + g + ", 0)", x.robbed(g, 0), 0);
        }
        x.robbed(7, 1);
        says("Promise 3", "BAD");
        for (int v : beyond(0, 1)) {
            due("robbed(0, " + v + ")", x.robbed(0, v), BAD);
        }
        for (int g : beyond(0, 7)) {
            due("robbed(" + g + ", 1)", x.robbed(g, 1), BAD);
        }
        due("robbed(0, 1) without graves", new GraveOrder().robbed(0, 1), BAD);
        due("robbed(1, 1) of one grave", graves(1).robbed(1, 1), BAD);
        due("count(7)", x.count(7), 128);
    }

    private static void weight() {
        says("Promise 4", "WEIGHT of a KIND: what it was");
        GraveOrder x = new GraveOrder();
        int[] then = {0, 3, 2, 1, 3, 0};
        int was = 1;
        for (int v : then) {
            due("weight(0, " + v + ")", x.weight(0, v), was);
            due("weight(9, " + v + ")", x.weight(9, v), was);
            was = v;
        }
        due("weight(1, 1), not touched", x.weight(1, 1), 1);
        due("weight(8, 1), not touched", x.weight(8, 1), 1);
        says("Promise 4", "BAD");
        for (int kind : beyond(0, 9)) {
            due("weight(" + kind + ", 1)", x.weight(kind, 1), BAD);
        }
        for (int v : beyond(0, 3)) {
            due("weight(5, " + v + ")", x.weight(5, v), BAD);
        }
        due("weight(5, 1), as at first", x.weight(5, 1), 1);
    }

    private static void over() {
        says("Promise 5", "how many such are told");
        GraveOrder x = graves(8);
        due("over(7, 0)", x.over(7, 0), 1);
        due("over(7, 0), told again", x.over(7, 0), 2);
        due("over(0, 7), the other way", x.over(0, 7), 3);
        says("Promise 5", "BAD");
        for (int g : beyond(0, 7)) {
            due("over(" + g + ", 0)", x.over(g, 0), BAD);
            due("over(0, " + g + ")", x.over(0, g), BAD);
        }
        due("over(0, 1) of one grave", graves(1).over(0, 1), BAD);
        due("over(0, 0) without graves", new GraveOrder().over(0, 0), BAD);
        says("Promise 5", "BAD: also over itself");
        due("over(0, 0)", x.over(0, 0), BAD);
        due("over(7, 7)", x.over(7, 7), BAD);
        due("count(4)", x.count(4), 3);
        says("Promise 5", "FULL");
        for (int told = 4; told <= 16; told++) {
            due("over(1, 2)", x.over(1, 2), told);
        }
        due("over(1, 2), the 17th", x.over(1, 2), FULL);
        says("Promise 5", FIRST_THAT_FITS + ": BAD; FULL");
        due("over(8, 0), the 17th", x.over(8, 0), BAD);
        due("over(0, -1), the 17th", x.over(0, -1), BAD);
        due("over(3, 3), the 17th", x.over(3, 3), BAD);
    }

    private static void type() {
        says("Promise 6", "A byte (0 to 255)");
        GraveOrder x = new GraveOrder();
        due("type(0)", x.type(0), 1);
        due("type(255)", x.type(255), 2);
        due("type(128)", x.type(128), 3);
        says("Promise 6", "BAD");
        for (int b : beyond(0, 255)) {
            due("type(" + b + ")", x.type(b), BAD);
        }
        due("type(304), 48 and 256 more", x.type(304), BAD);
        due("count(5)", x.count(5), 3);
        says("Promise 6", "comes behind the LINE: how many");
        GraveOrder y = graves(1);
        type(y, "0:1");
        due("type(44)", y.type(44), 4);
        due("fault()", y.fault(), 4);
        due("type(50)", y.type(50), 5);
        due("fault()", y.fault(), NONE);
        says("Promise 6", "FULL");
        for (int n = 6; n <= 40; n++) {
            due("type(0)", y.type(0), n);
        }
        due("type(0), the 41st", y.type(0), FULL);
        due("type(255), the 41st", y.type(255), FULL);
        says("Promise 6", FIRST_THAT_FITS + ": BAD; FULL");
        due("type(-1), the 41st", y.type(-1), BAD);
        due("type(256), the 41st", y.type(256), BAD);
    }

    private static void wipe() {
        says("Promise 7", "The LINE is empty: how many bytes it had");
        GraveOrder x = graves(1);
        due("wipe() of an empty line", x.wipe(), 0);
        x.type('0');
        due("wipe() of one byte", x.wipe(), 1);
        due("wipe() again", x.wipe(), 0);
        for (int i = 0; i < 41; i++) {
            x.type('0');
        }
        due("wipe() of all that there is room for", x.wipe(), 40);
        due("count(5)", x.count(5), 0);
        due("type('0'), there is room again", x.type('0'), 1);
        type(x, ":1");
        due("fault(), none of the bytes from before", x.fault(), NONE);
    }

    private static void fault() {
        says("Promise 8", "The FAULT; NONE");
        GraveOrder x = graves(1);
        int[] faults = {1, 2, 3, NONE, 5, 5};
        String line = "0:-1,x";
        for (int i = 0; i < line.length(); i++) {
            x.type(line.charAt(i));
            due("fault() of '" + line.substring(0, i + 1) + "'", x.fault(), faults[i]);
        }
        due("fault() of an empty line", new GraveOrder().fault(), 0);
        GraveOrder none = new GraveOrder();
        type(none, "0:1");
        due("fault() of '0:1' without graves", none.fault(), 0);
        GraveOrder y = graves(1);
        type(y, "0:1");
        for (int i = 3; i < 39; i++) {
            y.type(i % 2 == 1 ? ',' : '1');
        }
        due("fault() of 39 bytes", y.fault(), NONE);
        y.type(',');
        due("fault() of 40 bytes, not ended", y.fault(), 40);
        GraveOrder z = graves(1);
        type(z, "0:1");
        for (int i = 3; i < 39; i++) {
            z.type(i % 2 == 1 ? ',' : '1');
        }
        z.type('1');
        due("fault() at the last of 40 bytes", z.fault(), 39);
    }

    private static void tell() {
        says("Promise 9", "as many TELLINGS as there is room for: how many");
        GraveOrder x = graves(2);
        tellings(x, 57, 4);
        due("tell(4), four with room for three", told(x, "1:0,1;0:-9;1:2", 4), 3);
        due("has(1)", x.has(1), 3);
        due("has(0)", x.has(0), 0);
        due("count(1)", x.count(1), 60);
        due("tell(4) without room", told(x, "1:5", 4), 0);
        due("has(1)", x.has(1), 3);
        says("Promise 9", "the LINE is empty then");
        due("count(5), told without room", x.count(5), 0);
        GraveOrder y = graves(1);
        due("tell(0)", told(y, "0:0", 0), 1);
        due("count(5)", y.count(5), 0);
        due("tell(0) once more", y.tell(0), NOT);
        says("Promise 9", "BAD: also a TIME less than the one before");
        type(y, "0:1");
        due("tell(-1)", y.tell(-1), BAD);
        due("tell(1000)", y.tell(1000), BAD);
        due("tell(the least)", y.tell(LEAST), BAD);
        due("tell(the greatest)", y.tell(MOST), BAD);
        due("tell(500)", y.tell(500), 1);
        due("tell(499)", told(y, "0:2", 499), BAD);
        due("count(5), kept", y.count(5), 3);
        due("tell(500)", y.tell(500), 1);
        says("Promise 9", "NOT: a FAULT");
        due("tell(500) of an empty line", y.tell(500), NOT);
        due("tell(500) of a line not ended", told(y, "0:3,", 500), NOT);
        due("count(5), kept", y.count(5), 4);
        due("has(0), nothing of it was told", y.has(0), 7);
        due("tell(500) of a line ended", told(y, "4", 500), 2);
        due("tell(500) of a grave that there is not", told(y, "1:3", 500), NOT);
        due("count(1)", y.count(1), 5);
        says("Promise 9", FIRST_THAT_FITS + ": BAD; NOT");
        due("tell(499) of a line with a fault", y.tell(499), BAD);
        due("tell(1000) of a line with a fault", y.tell(1000), BAD);
        due("tell(-1) of an empty line without graves", new GraveOrder().tell(-1), BAD);
        due("tell(0) of an empty line without graves", new GraveOrder().tell(0), NOT);
    }

    private static void read() {
        says("Promise 10", "item k (0 or 1) tells whether it has KIND k (each is a TELLING)");
        GraveOrder x = graves(2, "0:0,1");
        items(x, 0, 2, 0, 1, 1, 0);
        due("read(0, 0, 0)", x.read(0, 0, 0), 4);
        due("has(0)", x.has(0), 6);
        due("has(1)", x.has(1), 0);
        due("count(1)", x.count(1), 6);
        says("Promise 10", "up to the first that is neither");
        int[] neither = {2, -1, LEAST, MOST, 256, 65536};
        for (int v : neither) {
            items(x, 0, 2, v, 1);
            due("read(0, 1, 0), item 0 is " + v, x.read(0, 1, 0), 0);
        }
        items(x, 0, 2, 1, 2, 1);
        due("read(0, 1, 0), item 1 is 2", x.read(0, 1, 0), 1);
        due("has(1)", x.has(1), 1);
        items(x, 0, 0, 256, 257, 258);
        due("read(0, 1, 0) of bytes 256, 257, 258", x.read(0, 1, 0), 2);
        due("has(1)", x.has(1), 2);
        x.sheet(0, 1, 0);
        due("read(0, 1, 0) of no items", x.read(0, 1, 0), 0);
        says("Promise 10", "ten at most");
        GraveOrder y = graves(1);
        items(y, 1, 1, 0, 0, 0, 0, 0, 0, 0, 0, 0, 1);
        due("read(1, 0, 0) of ten items", y.read(1, 0, 0), 10);
        due("has(0)", y.has(0), 512);
        items(y, 1, 1, 1, 0, 0, 0, 0, 0, 0, 0, 0, 0, 1);
        due("read(1, 0, 0) of eleven items", y.read(1, 0, 0), 10);
        due("has(0)", y.has(0), 1);
        y.sheet(1, 1, 40);
        due("read(1, 0, 0) of forty items", y.read(1, 0, 0), 10);
        due("has(0)", y.has(0), 0);
        items(y, 1, 1, 1, 1, 1, 1, 1, 1, 1, 1, 1);
        due("read(1, 0, 0) of nine items", y.read(1, 0, 0), 9);
        due("has(0)", y.has(0), 511);
        due("count(1)", y.count(1), 39);
        says("Promise 10", "as long as there is room: how many");
        due("read(1, 0, 0)", y.read(1, 0, 0), 9);
        y.sheet(2, 0, 7);
        due("read(2, 0, 0)", y.read(2, 0, 0), 7);
        items(y, 2, 0, 1, 1, 1, 1, 1, 1, 1);
        due("read(2, 0, 0), with room for five", y.read(2, 0, 0), 5);
        due("has(0), kinds 0 to 4 again", y.has(0), 384 + 31);
        due("read(2, 0, 0), without room", y.read(2, 0, 0), 0);
        due("has(0)", y.has(0), 384 + 31);
        due("count(1)", y.count(1), 60);
    }

    private static void readRefused() {
        says("Promise 10", "BAD: also a TIME less than the one before");
        GraveOrder x = graves(2);
        items(x, 0, 0, 1, 1);
        for (int s : beyond(0, 3)) {
            due("read(" + s + ", 0, 5)", x.read(s, 0, 5), BAD);
        }
        for (int g : beyond(0, 1)) {
            due("read(0, " + g + ", 5)", x.read(0, g, 5), BAD);
        }
        for (int time : beyond(0, 999)) {
            due("read(0, 0, " + time + ")", x.read(0, 0, time), BAD);
        }
        due("count(1)", x.count(1), 0);
        due("read(0, 0, 5)", x.read(0, 0, 5), 2);
        due("read(0, 0, 4)", x.read(0, 0, 4), BAD);
        due("read(0, 1, 4), of another grave", x.read(0, 1, 4), BAD);
        due("read(0, 0, 5)", x.read(0, 0, 5), 2);
        due("read(0, 0, 0) without graves", new GraveOrder().read(0, 0, 0), BAD);
        says("Promise 10", "NULL");
        due("count(8) before", x.count(8), 0);
        due("read(3, 0, 5)", x.read(3, 0, 5), NULL);
        due("count(8)", x.count(8), 1);
        due("count(1)", x.count(1), 4);
        says("Promise 10", FIRST_THAT_FITS + ": BAD; NULL");
        due("read(3, 2, 5) of a lost sheet", x.read(3, 2, 5), BAD);
        due("read(3, 0, 4) of a lost sheet", x.read(3, 0, 4), BAD);
        due("read(3, 0, 1000) of a lost sheet", x.read(3, 0, 1000), BAD);
        GraveOrder full = graves(1);
        tellings(full, 60, 0);
        due("read(0, 0, 0) of a lost sheet without room", full.read(0, 0, 0), NULL);
    }

    private static void asOf() {
        says("Promise 11", "AS OF: what it was");
        GraveOrder x = graves(1);
        due("asOf(0)", x.asOf(0), 999);
        due("asOf(0)", x.asOf(0), 0);
        due("asOf(999)", x.asOf(999), 0);
        due("asOf(500)", x.asOf(500), 999);
        due("count(6)", x.count(6), 500);
        told(x, "0:3", 500);
        due("has(0) as of 500", x.has(0), 8);
        due("asOf(499)", x.asOf(499), 500);
        due("has(0) as of 499", x.has(0), 0);
        says("Promise 11", "BAD");
        for (int time : beyond(0, 999)) {
            due("asOf(" + time + ")", x.asOf(time), BAD);
        }
        due("count(6)", x.count(6), 499);
        due("has(0) as of 499", x.has(0), 0);
    }

    private static void has() {
        says("Promise 12", "KINDS that a GRAVE HAS, as bits");
        GraveOrder x = graves(8);
        for (int kind = 0; kind < 10; kind++) {
            told(x, "7:" + kind, 0);
            due("has(7), kinds 0 to " + kind, x.has(7), (2 << kind) - 1);
        }
        due("has(0), none", x.has(0), 0);
        says("Promise 12", "BAD");
        for (int g : beyond(0, 7)) {
            due("has(" + g + ")", x.has(g), BAD);
        }
        due("has(0) without graves", new GraveOrder().has(0), BAD);
        due("has(1) of one grave", graves(1).has(1), BAD);
    }

    private static void gaps() {
        says("Promise 13", "GAPS of the ORDER that is told by a SHEET (its items): what = 0");
        GraveOrder x = graves(3, "0:0;2:0");
        x.over(1, 0);
        for (int form = 0; form <= 2; form++) {
            items(x, 0, form, 2, 1, 0);
            due("gaps(0, 0) of 2 1 0, which cannot be", x.gaps(0, 0), 1);
            due("gaps(0, 1) of 2 1 0", x.gaps(0, 1), 0);
            items(x, 0, form, 0, 2, 1);
            due("gaps(0, 0) of 0 2 1", x.gaps(0, 0), 0);
            due("gaps(0, 1) of 0 2 1", x.gaps(0, 1), 1);
        }
        GraveOrder most = graves(8, "0:0,1,2,3,4,5,6,7,8,9", "7:0,1,2,3,4,5,6,7,8,9");
        for (int kind = 0; kind < 10; kind++) {
            most.weight(kind, 3);
        }
        items(most, 1, 0, 0, 1, 2, 3, 4, 5, 6, 7);
        due("gaps(1, 0), the most", most.gaps(1, 0), 180);
        says("Promise 13", "BAD");
        for (int s : beyond(0, 3)) {
            due("gaps(" + s + ", 0)", x.gaps(s, 0), BAD);
        }
        for (int what : beyond(0, 1)) {
            due("gaps(0, " + what + ")", x.gaps(0, what), BAD);
        }
        says("Promise 13", "NULL");
        due("gaps(3, 0)", x.gaps(3, 0), NULL);
        due("gaps(3, 1)", x.gaps(3, 1), NULL);
        due("count(8)", x.count(8), 1);
        due("gaps(0, 0) without graves, a lost sheet", new GraveOrder().gaps(0, 0), NULL);
        says("Promise 13", "NOT: it is no ORDER");
        items(x, 1, 0, 0, 1);
        due("gaps(1, 0) of too few", x.gaps(1, 0), NOT);
        due("gaps(1, 1) of too few", x.gaps(1, 1), NOT);
        items(x, 1, 0, 0, 1, 2, 2);
        due("gaps(1, 0) of too many", x.gaps(1, 0), NOT);
        items(x, 1, 0, 0, 1, 0);
        due("gaps(1, 1) of one twice", x.gaps(1, 1), NOT);
        items(x, 1, 0, 1, 2, 3);
        due("gaps(1, 1) of one that there is not", x.gaps(1, 1), NOT);
        x.sheet(1, 0, 0);
        due("gaps(1, 1) of no items", x.gaps(1, 1), NOT);
        x.sheet(1, 0, 40);
        due("gaps(1, 0) of forty items", x.gaps(1, 0), NOT);
        says("Promise 13", FIRST_THAT_FITS + ": BAD; NULL; NOT");
        due("gaps(3, 2) of a lost sheet", x.gaps(3, 2), BAD);
        due("gaps(3, -1) of a lost sheet", x.gaps(3, -1), BAD);
        due("gaps(1, 2) of no order", x.gaps(1, 2), BAD);
        x.lose(1);
        due("gaps(1, 0), lost, was no order", x.gaps(1, 0), NULL);
    }

    private static void best() {
        says("Promise 14", "BEST: GAPS (what = 0), how many ORDERS (1), TURNED (2)");
        GraveOrder x = graves(8);
        due("best(0) of eight like graves", x.best(0), 0);
        due("best(1) of eight like graves", x.best(1), 40320);
        due("best(2) of eight like graves", x.best(2), 1);
        GraveOrder y = row(3, "0:0;2:0");
        due("best(0) of one order", y.best(0), 1);
        due("best(1) of one order", y.best(1), 1);
        due("best(2) of one order", y.best(2), 0);
        says("Promise 14", "BAD");
        for (int what : beyond(0, 2)) {
            due("best(" + what + ")", x.best(what), BAD);
        }
        says("Promise 14", "NOT");
        for (int what = 0; what <= 2; what++) {
            due("best(" + what + "), none can be", noOrder().best(what), NOT);
        }
        says("Promise 14", FIRST_THAT_FITS + ": BAD; NOT");
        for (int what : beyond(0, 2)) {
            due("best(" + what + "), none can be", noOrder().best(what), BAD);
        }
    }

    private static void first() {
        says("Promise 15", "NONE beyond");
        GraveOrder x = graves(3);
        due("first(2), the last", x.first(2), 2);
        due("first(3), one beyond", x.first(3), NONE);
        due("first(8)", x.first(8), NONE);
        due("first(the greatest)", x.first(MOST), NONE);
        due("first(0) without graves", new GraveOrder().first(0), NONE);
        due("first(7) of eight", graves(8).first(7), 7);
        due("first(8) of eight", graves(8).first(8), NONE);
        says("Promise 15", "BAD");
        due("first(-1)", x.first(-1), BAD);
        due("first(the least)", x.first(LEAST), BAD);
        due("first(-1) without graves", new GraveOrder().first(-1), BAD);
        says("Promise 15", "NOT");
        due("first(0), none can be", noOrder().first(0), NOT);
        due("first(1), none can be", noOrder().first(1), NOT);
        due("first(2), none can be", noOrder().first(2), NOT);
        says("Promise 15", FIRST_THAT_FITS + ": BAD; NOT");
        due("first(-1), none can be", noOrder().first(-1), BAD);
        due("first(the least), none can be", noOrder().first(LEAST), BAD);
    }

    private static void sure() {
        says("Promise 16", "Whether a GRAVE is SURELY AHEAD of another one: 1, 0");
        GraveOrder x = row(8);
        due("sure(0, 7)", x.sure(0, 7), 1);
        due("sure(7, 0)", x.sure(7, 0), 0);
        due("sure(0, 7) of like ones", graves(8).sure(0, 7), 0);
        due("sure(7, 0) of like ones", graves(8).sure(7, 0), 0);
        says("Promise 16", "BAD");
        for (int g : beyond(0, 7)) {
            due("sure(" + g + ", 0)", x.sure(g, 0), BAD);
            due("sure(0, " + g + ")", x.sure(0, g), BAD);
        }
        due("sure(0, 1) without graves", new GraveOrder().sure(0, 1), BAD);
        says("Promise 16", "BAD: also of itself");
        due("sure(0, 0)", x.sure(0, 0), BAD);
        due("sure(7, 7)", x.sure(7, 7), BAD);
        says("Promise 16", "NOT");
        due("sure(0, 1), none can be", noOrder().sure(0, 1), NOT);
        due("sure(1, 0), none can be", noOrder().sure(1, 0), NOT);
        says("Promise 16", FIRST_THAT_FITS + ": BAD; NOT");
        due("sure(0, 0), none can be", noOrder().sure(0, 0), BAD);
        due("sure(0, 2), none can be", noOrder().sure(0, 2), BAD);
        due("sure(-1, 0), none can be", noOrder().sure(-1, 0), BAD);
    }

    private static void places() {
        says("Promise 17", "PLACES, as bits");
        due("places(0) of eight like graves", graves(8).places(0), 255);
        due("places(7) of one order", row(8).places(7), 128);
        says("Promise 17", "BAD");
        for (int g : beyond(0, 7)) {
            due("places(" + g + ")", graves(8).places(g), BAD);
        }
        due("places(0) without graves", new GraveOrder().places(0), BAD);
        says("Promise 17", "NOT");
        due("places(0), none can be", noOrder().places(0), NOT);
        says("Promise 17", FIRST_THAT_FITS + ": BAD; NOT");
        due("places(2), none can be", noOrder().places(2), BAD);
        due("places(-1), none can be", noOrder().places(-1), BAD);
    }

    private static void spread() {
        says("Promise 18", "just so many GAPS (0 to 999; what = 0), FEWER or as many (1)");
        GraveOrder x = row(3, "0:0;2:0");
        due("spread(0, 0)", x.spread(0, 0), 0);
        due("spread(0, 1)", x.spread(0, 1), 0);
        due("spread(1, 0)", x.spread(1, 0), 1);
        due("spread(1, 1)", x.spread(1, 1), 1);
        due("spread(2, 0)", x.spread(2, 0), 0);
        due("spread(2, 1)", x.spread(2, 1), 1);
        due("spread(999, 0)", x.spread(999, 0), 0);
        due("spread(999, 1)", x.spread(999, 1), 1);
        due("spread(0, 0) of eight like graves", graves(8).spread(0, 0), 40320);
        due("spread(999, 1) of eight like graves", graves(8).spread(999, 1), 40320);
        says("Promise 18", "BAD");
        for (int gaps : beyond(0, 999)) {
            due("spread(" + gaps + ", 0)", x.spread(gaps, 0), BAD);
            due("spread(" + gaps + ", 1)", x.spread(gaps, 1), BAD);
            due("spread(" + gaps + ", 0), none can be", noOrder().spread(gaps, 0), BAD);
        }
        for (int what : beyond(0, 1)) {
            due("spread(0, " + what + ")", x.spread(0, what), BAD);
            due("spread(0, " + what + "), none can be", noOrder().spread(0, what), BAD);
        }
        says("Promise 18", "how many that CAN BE, where none can");
        due("spread(0, 0), none can be", noOrder().spread(0, 0), 0);
        due("spread(0, 1), none can be", noOrder().spread(0, 1), 0);
    }

    private static void mean() {
        says("Promise 19", "MEAN: above, below");
        due("mean(0) of 1 by 1", row(3, "0:0;2:0").mean(0), 1);
        due("mean(1) of 1 by 1", row(3, "0:0;2:0").mean(1), 1);
        due("mean(0) of 2 by 6", graves(3, "0:0;2:0").mean(0), 1);
        due("mean(1) of 2 by 6", graves(3, "0:0;2:0").mean(1), 3);
        due("mean(0) of eight like graves", graves(8).mean(0), 0);
        due("mean(1) of eight like graves", graves(8).mean(1), 1);
        says("Promise 19", "BAD");
        for (int what : beyond(0, 1)) {
            due("mean(" + what + ")", graves(2).mean(what), LONG_BAD);
        }
        says("Promise 19", "NOT");
        due("mean(0), none can be", noOrder().mean(0), LONG_NOT);
        due("mean(1), none can be", noOrder().mean(1), LONG_NOT);
        says("Promise 19", FIRST_THAT_FITS + ": BAD; NOT");
        for (int what : beyond(0, 1)) {
            due("mean(" + what + "), none can be", noOrder().mean(what), LONG_BAD);
        }
    }

    private static void leftOutAndMended() {
        says("Promise 20", "LEFT OUT, as bits");
        due("leftOut() without graves", new GraveOrder().leftOut(), 0);
        due("leftOut() of kind 9", row(3, "0:9;2:9").leftOut(), 512);
        says("Promise 20", "NOT");
        due("leftOut(), none can be", noOrder().leftOut(), NOT);
        says("Promise 21", "MENDED");
        due("mended(9)", row(3, "0:9;2:9").mended(9), 1);
        due("mended(0), which none has", row(3, "0:9;2:9").mended(0), 0);
        says("Promise 21", "BAD");
        for (int kind : beyond(0, 9)) {
            due("mended(" + kind + ")", graves(1).mended(kind), BAD);
            due("mended(" + kind + ") without graves", new GraveOrder().mended(kind), BAD);
        }
        says("Promise 21", "NOT");
        due("mended(0), none can be", noOrder().mended(0), NOT);
        due("mended(9), none can be", noOrder().mended(9), NOT);
        says("Promise 21", FIRST_THAT_FITS + ": BAD; NOT");
        for (int kind : beyond(0, 9)) {
            due("mended(" + kind + "), none can be", noOrder().mended(kind), BAD);
        }
    }

    private static void phases() {
        says("Promise 22", "STRADDLES (grave = NONE), the part of a GRAVE (0 on)");
        GraveOrder x = row(3, "0:0;1:0;2:0");
        due("phases(3, NONE)", x.phases(3, NONE), 2);
        due("phases(3, 0)", x.phases(3, 0), 0);
        due("phases(3, 2)", x.phases(3, 2), 2);
        due("phases(1, NONE)", x.phases(1, NONE), 0);
        due("phases(1, 2)", x.phases(1, 2), 0);
        says("Promise 22", "BAD");
        for (int n : beyond(1, 8)) {
            due("phases(" + n + ", NONE)", x.phases(n, NONE), BAD);
            due("phases(" + n + ", 0)", x.phases(n, 0), BAD);
        }
        int[] noGraves = {-2, 3, LEAST, MOST};
        for (int g : noGraves) {
            due("phases(1, " + g + ")", x.phases(1, g), BAD);
        }
        due("phases(1, 0) without graves", new GraveOrder().phases(1, 0), BAD);
        says("Promise 22", "NOT");
        due("phases(1, NONE), none can be", noOrder().phases(1, NONE), NOT);
        due("phases(2, 1), none can be", noOrder().phases(2, 1), NOT);
        says("Promise 22", "NOT: also more parts than GRAVES");
        due("phases(4, NONE)", x.phases(4, NONE), NOT);
        due("phases(4, 2)", x.phases(4, 2), NOT);
        due("phases(8, 0)", x.phases(8, 0), NOT);
        due("phases(1, NONE) without graves", new GraveOrder().phases(1, NONE), NOT);
        due("phases(8, NONE) without graves", new GraveOrder().phases(8, NONE), NOT);
        due("phases(8, NONE) of eight", graves(8).phases(8, NONE), 0);
        says("Promise 22", FIRST_THAT_FITS + ": BAD; NOT");
        due("phases(4, 3), more parts than graves", x.phases(4, 3), BAD);
        due("phases(8, -2), more parts than graves", x.phases(8, -2), BAD);
        due("phases(9, NONE), more parts than graves", x.phases(9, NONE), BAD);
        due("phases(0, NONE), none can be", noOrder().phases(0, NONE), BAD);
        due("phases(1, 2), none can be", noOrder().phases(1, 2), BAD);
        due("phases(9, NONE) without graves", new GraveOrder().phases(9, NONE), BAD);
    }

    private static void years() {
        says("Promise 23", "YEARS of a GRAVE (of = 0), of a KIND (1): the least (end = 0), the greatest (1)");
        GraveOrder x = new GraveOrder();
        x.grave(0, 99);
        x.grave(3, 7);
        told(x, "0:0;1:9", 0);
        due("years(0, 0, 0)", x.years(0, 0, 0), 0);
        due("years(0, 0, 1)", x.years(0, 0, 1), 7);
        due("years(0, 1, 0)", x.years(0, 1, 0), 3);
        due("years(0, 1, 1)", x.years(0, 1, 1), 7);
        due("years(1, 0, 0)", x.years(1, 0, 0), 0);
        due("years(1, 9, 0)", x.years(1, 9, 0), 3);
        due("years(1, 9, 1)", x.years(1, 9, 1), 7);
        says("Promise 23", "BAD");
        for (int bad : beyond(0, 1)) {
            due("years(" + bad + ", 0, 0)", x.years(bad, 0, 0), BAD);
            due("years(0, 0, " + bad + ")", x.years(0, 0, bad), BAD);
            due("years(1, 0, " + bad + ")", x.years(1, 0, bad), BAD);
            due("years(0, " + bad + ", 0)", x.years(0, bad, 0), BAD);
        }
        for (int kind : beyond(0, 9)) {
            due("years(1, " + kind + ", 0)", x.years(1, kind, 0), BAD);
        }
        due("years(0, 0, 0) without graves", new GraveOrder().years(0, 0, 0), BAD);
        due("years(0, 9, 0), a kind but no grave", x.years(0, 9, 0), BAD);
        says("Promise 23", "NOT: also a KIND that none HAS");
        due("years(1, 5, 0)", x.years(1, 5, 0), NOT);
        due("years(1, 5, 1)", x.years(1, 5, 1), NOT);
        x.asOf(0);
        told(x, "0:5", 1);
        due("years(1, 5, 1), told later than as of", x.years(1, 5, 1), NOT);
        due("years(1, 0, 0) without graves", new GraveOrder().years(1, 0, 0), NOT);
        due("years(0, 0, 1), none can be", noOrder().years(0, 0, 1), NOT);
        due("years(1, 0, 1), none can be", noOrder().years(1, 0, 1), NOT);
        says("Promise 23", FIRST_THAT_FITS + ": BAD; NOT");
        due("years(1, 5, 2), none has it", x.years(1, 5, 2), BAD);
        due("years(2, 0, 0), none can be", noOrder().years(2, 0, 0), BAD);
        due("years(0, 2, 0), none can be", noOrder().years(0, 2, 0), BAD);
        due("years(1, 10, 0), none can be", noOrder().years(1, 10, 0), BAD);
        due("years(0, 0, -1), none can be", noOrder().years(0, 0, -1), BAD);
    }

    private static void fresh() {
        says("Promise 24", "places, as bits (what = 0), GAPS (1)");
        GraveOrder x = row(3, "0:0;2:0");
        due("fresh(0, 0)", x.fresh(0, 0), 9);
        due("fresh(0, 1)", x.fresh(0, 1), 1);
        due("fresh(1023, 0)", x.fresh(1023, 0), 15);
        due("fresh(1023, 1)", x.fresh(1023, 1), 1);
        due("count(0), none was added", x.count(0), 3);
        due("fresh(512, 0) of eight", graves(8).fresh(512, 0), 511);
        due("fresh(0, 0) without graves", new GraveOrder().fresh(0, 0), 1);
        says("Promise 24", "BAD");
        for (int kinds : beyond(0, 1023)) {
            due("fresh(" + kinds + ", 0)", x.fresh(kinds, 0), BAD);
            due("fresh(" + kinds + ", 1)", x.fresh(kinds, 1), BAD);
        }
        for (int what : beyond(0, 1)) {
            due("fresh(0, " + what + ")", x.fresh(0, what), BAD);
        }
        says("Promise 24", "NOT");
        due("fresh(0, 0), none can be", noOrder().fresh(0, 0), NOT);
        due("fresh(1023, 1), none can be", noOrder().fresh(1023, 1), NOT);
        says("Promise 24", FIRST_THAT_FITS + ": BAD; NOT");
        due("fresh(1024, 0), none can be", noOrder().fresh(1024, 0), BAD);
        due("fresh(-1, 0), none can be", noOrder().fresh(-1, 0), BAD);
        due("fresh(0, 2), none can be", noOrder().fresh(0, 2), BAD);
    }

    private static void alike() {
        says("Promise 25", "ALIKE: above, below");
        GraveOrder x = graves(8, "0:0,1;7:1");
        due("alike(0, 7, 0)", x.alike(0, 7, 0), 1);
        due("alike(0, 7, 1)", x.alike(0, 7, 1), 2);
        due("alike(7, 0, 1)", x.alike(7, 0, 1), 2);
        says("Promise 25", "BAD");
        for (int g : beyond(0, 7)) {
            due("alike(" + g + ", 0, 0)", x.alike(g, 0, 0), LONG_BAD);
            due("alike(0, " + g + ", 0)", x.alike(0, g, 0), LONG_BAD);
        }
        for (int what : beyond(0, 1)) {
            due("alike(0, 7, " + what + ")", x.alike(0, 7, what), LONG_BAD);
        }
        due("alike(0, 1, 0) without graves", new GraveOrder().alike(0, 1, 0), LONG_BAD);
        says("Promise 25", "BAD: also with itself");
        due("alike(0, 0, 0)", x.alike(0, 0, 0), LONG_BAD);
        due("alike(7, 7, 1)", x.alike(7, 7, 1), LONG_BAD);
        says("Promise 25", "NOT: 0 by 0");
        due("alike(1, 2, 0)", x.alike(1, 2, 0), LONG_NOT);
        due("alike(1, 2, 1)", x.alike(1, 2, 1), LONG_NOT);
        due("alike(0, 1, 0), 0 by 2", x.alike(0, 1, 0), 0);
        x.weight(0, 0);
        x.weight(1, 0);
        due("alike(0, 7, 0), none that weighs", x.alike(0, 7, 0), LONG_NOT);
        says("Promise 25", FIRST_THAT_FITS + ": BAD; NOT");
        due("alike(1, 1, 0) of one without kinds", x.alike(1, 1, 0), LONG_BAD);
        due("alike(1, 2, 2), 0 by 0", x.alike(1, 2, 2), LONG_BAD);
        due("alike(1, 8, 0), 0 by 0", x.alike(1, 8, 0), LONG_BAD);
    }

    private static void nearest() {
        says("Promise 26", "NEAREST; NONE");
        GraveOrder x = graves(8, "0:0;7:0");
        due("nearest(0)", x.nearest(0), 7);
        due("nearest(7)", x.nearest(7), 0);
        due("nearest(3), 0 by 1 with 0", x.nearest(3), 0);
        due("nearest(0), alone", graves(1, "0:0").nearest(0), NONE);
        due("nearest(7), 0 by 0 with all", graves(8).nearest(7), NONE);
        says("Promise 26", "BAD");
        for (int g : beyond(0, 7)) {
            due("nearest(" + g + ")", x.nearest(g), BAD);
        }
        due("nearest(0) without graves", new GraveOrder().nearest(0), BAD);
    }

    private static void sheet() {
        says("Promise 27", "A SHEET is a new row of a FORM with n items: n");
        GraveOrder x = new GraveOrder();
        due("sheet(0, 0, 0)", x.sheet(0, 0, 0), 0);
        due("sheet(3, 2, 40)", x.sheet(3, 2, 40), 40);
        x.put(3, 2, 39, 5);
        due("sheet(3, 2, 40), a new one", x.sheet(3, 2, 40), 40);
        due("get(3, 2, 39)", x.get(3, 2, 39), 0);
        due("sheet(3, 0, 1), of another form", x.sheet(3, 0, 1), 1);
        due("put(3, 0, 0, 7)", x.put(3, 0, 0, 7), 1);
        due("put(3, 0, 1, 7), it is shorter now", x.put(3, 0, 1, 7), INDEX);
        says("Promise 27", "BAD: SHEET, FORM, above 40");
        for (int s : beyond(0, 3)) {
            due("sheet(" + s + ", 0, 1)", x.sheet(s, 0, 1), BAD);
        }
        for (int form : beyond(0, 2)) {
            due("sheet(3, " + form + ", 1)", x.sheet(3, form, 1), BAD);
        }
        due("sheet(3, 0, 41)", x.sheet(3, 0, 41), BAD);
        due("sheet(3, 0, the greatest)", x.sheet(3, 0, MOST), BAD);
        due("count(8), as before", x.count(8), 2);
        due("get(3, 0, 0), kept", x.get(3, 0, 0), 7);
        says("Promise 27", "SIZE");
        due("sheet(3, 0, -1)", x.sheet(3, 0, -1), SIZE);
        due("sheet(3, 2, the least)", x.sheet(3, 2, LEAST), SIZE);
        due("count(8)", x.count(8), 5);
        due("get(3, 0, 0), kept", x.get(3, 0, 0), 7);
        due("sheet(1, 0, -1) of a lost one", x.sheet(1, 0, -1), SIZE);
        due("lose(1), still lost", x.lose(1), NULL);
        says("Promise 27", FIRST_THAT_FITS + ": BAD; SIZE");
        due("sheet(4, 0, -1)", x.sheet(4, 0, -1), BAD);
        due("sheet(-1, 0, -1)", x.sheet(-1, 0, -1), BAD);
        due("sheet(0, 3, -1)", x.sheet(0, 3, -1), BAD);
        due("sheet(0, -1, -1)", x.sheet(0, -1, -1), BAD);
        due("count(8), of the finding before", x.count(8), 1);
    }

    private static void lose() {
        says("Promise 28", "It is LOST: how many items it had");
        GraveOrder x = new GraveOrder();
        x.sheet(0, 0, 0);
        x.sheet(3, 2, 40);
        due("lose(0) of no items", x.lose(0), 0);
        due("lose(3) of forty items", x.lose(3), 40);
        due("get(3, 2, 0)", x.get(3, 2, 0), LEAST);
        due("count(8)", x.count(8), 1);
        says("Promise 28", "BAD");
        for (int s : beyond(0, 3)) {
            due("lose(" + s + ")", x.lose(s), BAD);
        }
        says("Promise 28", "NULL");
        due("lose(0) again", x.lose(0), NULL);
        due("lose(3) again", x.lose(3), NULL);
        due("lose(1), lost at first", x.lose(1), NULL);
    }

    private static void put() {
        says("Promise 29", "the lowest bits that it has, with its sign");
        int[] values = {0, 1, -1, 127, 128, 255, 256, -128, -129, 32767, 32768, 65535, 65536, -32768, -32769, LEAST,
            MOST};
        int[] asBytes = {0, 1, -1, 127, -128, -1, 0, -128, 127, -1, 0, -1, 0, 0, -1, 0, -1};
        int[] asShorts = {0, 1, -1, 127, 128, 255, 256, -128, -129, 32767, -32768, -1, 0, -32768, 32767, 0, -1};
        GraveOrder x = new GraveOrder();
        for (int form = 0; form <= 2; form++) {
            x.sheet(form, form, 40);
            for (int i = 0; i < values.length; i++) {
                due("put(" + form + ", " + form + ", 39, " + values[i] + ")", x.put(form, form, 39, values[i]), 1);
                int due = form == 0 ? asBytes[i] : form == 1 ? asShorts[i] : values[i];
                due("get(" + form + ", " + form + ", 39)", x.get(form, form, 39), due);
            }
            due("get(" + form + ", " + form + ", 38), beside it", x.get(form, form, 38), 0);
        }
        says("Promise 29", "by write(), too");
        GraveOrder y = row(8);
        for (int form = 0; form <= 2; form++) {
            y.sheet(form, form, 8);
            due("write(" + form + ")", y.write(form), 8);
            due("get(" + form + ", " + form + ", 7)", y.get(form, form, 7), 7);
        }
    }

    private static void putRefused() {
        says("Promise 29", "BAD");
        GraveOrder x = new GraveOrder();
        x.sheet(0, 0, 2);
        x.sheet(1, 1, 0);
        for (int s : beyond(0, 3)) {
            due("put(" + s + ", 0, 0, 1)", x.put(s, 0, 0, 1), BAD);
        }
        for (int form : beyond(0, 2)) {
            due("put(0, " + form + ", 0, 1)", x.put(0, form, 0, 1), BAD);
        }
        due("count(8)", x.count(8), 0);
        says("Promise 29", "NULL");
        due("put(3, 0, 0, 1)", x.put(3, 0, 0, 1), NULL);
        says("Promise 29", "CAST");
        due("put(0, 1, 0, 1)", x.put(0, 1, 0, 1), CAST);
        due("put(0, 2, 0, 1)", x.put(0, 2, 0, 1), CAST);
        due("put(1, 0, 0, 1)", x.put(1, 0, 0, 1), CAST);
        due("count(8)", x.count(8), 3);
        says("Promise 29", "INDEX");
        due("put(0, 0, 1, 1), the last one", x.put(0, 0, 1, 1), 1);
        for (int i : beyond(0, 1)) {
            due("put(0, 0, " + i + ", 1)", x.put(0, 0, i, 1), INDEX);
        }
        due("put(1, 1, 0, 1) of no items", x.put(1, 1, 0, 1), INDEX);
        due("count(8)", x.count(8), 2);
        says("Promise 29", FIRST_THAT_FITS + ": BAD; NULL; CAST; INDEX");
        due("put(3, 3, 0, 1), no form and lost", x.put(3, 3, 0, 1), BAD);
        due("put(0, -1, 2, 1), no form and no item", x.put(0, -1, 2, 1), BAD);
        due("put(3, 0, -1, 1), lost and no item", x.put(3, 0, -1, 1), NULL);
        x.sheet(2, 2, 1);
        x.lose(2);
        due("put(2, 0, 0, 1), lost and was of another form", x.put(2, 0, 0, 1), NULL);
        due("put(0, 1, 2, 1), another form and no item", x.put(0, 1, 2, 1), CAST);
        due("put(0, 2, -1, 1), another form and no item", x.put(0, 2, -1, 1), CAST);
    }

    private static void getDue(GraveOrder x, int s, int form, int i, int finding) {
        String call = "get(" + s + ", " + form + ", " + i + ")";
        due(call, x.get(s, form, i), LEAST);
        due("count(8) after " + call, x.count(8), finding);
    }

    private static void get() {
        says("Promise 30", "BAD: the least int");
        GraveOrder x = new GraveOrder();
        items(x, 0, 0, 5, 6);
        for (int s : beyond(0, 3)) {
            getDue(x, s, 0, 0, 0);
        }
        for (int form : beyond(0, 2)) {
            getDue(x, 0, form, 0, 0);
        }
        says("Promise 30", "so are NULL, CAST, INDEX (count() 8 tells)");
        getDue(x, 3, 0, 0, 1);
        getDue(x, 0, 1, 0, 3);
        getDue(x, 0, 2, 0, 3);
        for (int i : beyond(0, 1)) {
            getDue(x, 0, 0, i, 2);
        }
        x.sheet(1, 2, 0);
        getDue(x, 1, 2, 0, 2);
        says("Promise 30", "Item i of it");
        due("get(0, 0, 0)", x.get(0, 0, 0), 5);
        due("get(0, 0, 1)", x.get(0, 0, 1), 6);
        due("count(8), as before", x.count(8), 2);
        items(x, 2, 2, LEAST, MOST);
        due("get(2, 2, 0), the least int is an item, too", x.get(2, 2, 0), LEAST);
        due("count(8), as before", x.count(8), 2);
        due("get(2, 2, 1)", x.get(2, 2, 1), MOST);
        says("Promise 30", FIRST_THAT_FITS + ": BAD; NULL; CAST; INDEX");
        getDue(x, 3, 0, 0, 1);
        getDue(x, 0, 1, 2, 3);
        getDue(x, 3, 3, 0, 3);
        getDue(x, 3, 0, -1, 1);
        getDue(x, 0, 3, 2, 1);
        x.lose(2);
        getDue(x, 0, 1, -1, 3);
        getDue(x, 2, 0, 9, 1);
    }

    private static void itemsAre(GraveOrder x, int s, int form, int... values) {
        for (int i = 0; i < values.length; i++) {
            due("get(" + s + ", " + form + ", " + i + ")", x.get(s, form, i), values[i]);
        }
    }

    private static void copy() {
        says("Promise 31", "n items of SHEET s, from i on, come to SHEET t");
        for (int form = 0; form <= 2; form++) {
            GraveOrder x = new GraveOrder();
            items(x, 0, form, 1, -2, 3, -4, 5);
            items(x, 3, form, 9, 9, 9);
            due("copy(0, 2, 3, 0, 3), up to both ends", x.copy(0, 2, 3, 0, 3), 1);
            itemsAre(x, 3, form, 3, -4, 5);
            due("copy(0, 0, 3, 2, 1)", x.copy(0, 0, 3, 2, 1), 1);
            itemsAre(x, 3, form, 3, -4, 1);
            due("copy(3, 0, 0, 2, 3)", x.copy(3, 0, 0, 2, 3), 1);
            itemsAre(x, 0, form, 1, -2, 3, -4, 1);
            due("copy(0, 0, 3, 0, 0), nothing", x.copy(0, 0, 3, 0, 0), 1);
            itemsAre(x, 3, form, 3, -4, 1);
        }
        says("Promise 31", "(perhaps s, as they were)");
        GraveOrder y = new GraveOrder();
        items(y, 1, 2, 1, 2, 3, 4, 5);
        due("copy(1, 0, 1, 1, 4), one on", y.copy(1, 0, 1, 1, 4), 1);
        itemsAre(y, 1, 2, 1, 1, 2, 3, 4);
        due("copy(1, 1, 1, 0, 4), one back", y.copy(1, 1, 1, 0, 4), 1);
        itemsAre(y, 1, 2, 1, 2, 3, 4, 4);
        due("copy(1, 0, 1, 0, 5), onto itself", y.copy(1, 0, 1, 0, 5), 1);
        itemsAre(y, 1, 2, 1, 2, 3, 4, 4);
        GraveOrder most = new GraveOrder();
        most.sheet(0, 0, 40);
        most.sheet(1, 0, 40);
        most.put(0, 0, 0, 7);
        most.put(0, 0, 39, 8);
        due("copy(0, 0, 1, 0, 40), all that there is room for", most.copy(0, 0, 1, 0, 40), 1);
        due("get(1, 0, 0)", most.get(1, 0, 0), 7);
        due("get(1, 0, 39)", most.get(1, 0, 39), 8);
        due("copy(0, 0, 1, 0, 41)", most.copy(0, 0, 1, 0, 41), INDEX);
    }

    private static void copyRefused() {
        GraveOrder x = new GraveOrder();
        items(x, 0, 0, 1, 2, 3, 4);
        items(x, 1, 0, 5, 6);
        x.sheet(2, 1, 2);
        says("Promise 31", "BAD: the SHEETS");
        for (int s : beyond(0, 3)) {
            due("copy(" + s + ", 0, 1, 0, 1)", x.copy(s, 0, 1, 0, 1), BAD);
            due("copy(0, 0, " + s + ", 0, 1)", x.copy(0, 0, s, 0, 1), BAD);
        }
        due("count(8)", x.count(8), 0);
        says("Promise 31", "NULL: s, t");
        due("copy(3, 0, 0, 0, 0)", x.copy(3, 0, 0, 0, 0), NULL);
        due("copy(0, 0, 3, 0, 0)", x.copy(0, 0, 3, 0, 0), NULL);
        due("copy(3, 0, 3, 0, 0)", x.copy(3, 0, 3, 0, 0), NULL);
        says("Promise 31", "STORE");
        due("copy(0, 0, 2, 0, 1)", x.copy(0, 0, 2, 0, 1), STORE);
        due("copy(2, 0, 0, 0, 1)", x.copy(2, 0, 0, 0, 1), STORE);
        due("copy(0, 0, 2, 0, 0), nothing", x.copy(0, 0, 2, 0, 0), STORE);
        due("count(8)", x.count(8), 4);
        says("Promise 31", "INDEX: i, j or n below 0");
        int[] below = {-1, LEAST};
        for (int v : below) {
            due("copy(0, " + v + ", 1, 0, 1)", x.copy(0, v, 1, 0, 1), INDEX);
            due("copy(0, 0, 1, " + v + ", 1)", x.copy(0, 0, 1, v, 1), INDEX);
            due("copy(0, 0, 1, 0, " + v + ")", x.copy(0, 0, 1, 0, v), INDEX);
            due("copy(0, " + v + ", 1, 0, 0)", x.copy(0, v, 1, 0, 0), INDEX);
            due("copy(0, 0, 1, " + v + ", 0)", x.copy(0, 0, 1, v, 0), INDEX);
        }
        due("copy(0, 4, 1, 2, -1)", x.copy(0, 4, 1, 2, -1), INDEX);
        says("Promise 31", "not so many there");
        due("copy(0, 3, 1, 0, 2), one too many of s", x.copy(0, 3, 1, 0, 2), INDEX);
        due("copy(0, 0, 1, 1, 2), one too many of t", x.copy(0, 0, 1, 1, 2), INDEX);
        due("copy(0, 0, 1, 0, 3), one too many of t", x.copy(0, 0, 1, 0, 3), INDEX);
        due("copy(0, 0, 0, 0, 5)", x.copy(0, 0, 0, 0, 5), INDEX);
        due("copy(0, 1, 1, 0, the greatest)", x.copy(0, 1, 1, 0, MOST), INDEX);
        due("copy(0, the greatest, 1, 0, 1)", x.copy(0, MOST, 1, 0, 1), INDEX);
        due("copy(0, 0, 1, the greatest, 1)", x.copy(0, 0, 1, MOST, 1), INDEX);
        due("copy of the greatest", x.copy(0, MOST, 1, MOST, MOST), INDEX);
        says("Promise 31", "(of n 0, too: i or j above the size)");
        due("copy(0, 4, 1, 2, 0), at both ends", x.copy(0, 4, 1, 2, 0), 1);
        due("copy(0, 5, 1, 0, 0)", x.copy(0, 5, 1, 0, 0), INDEX);
        due("copy(0, 0, 1, 3, 0)", x.copy(0, 0, 1, 3, 0), INDEX);
        due("copy(0, the greatest, 1, 0, 0)", x.copy(0, MOST, 1, 0, 0), INDEX);
        due("copy(0, 0, 1, the greatest, 0)", x.copy(0, 0, 1, MOST, 0), INDEX);
        itemsAre(x, 0, 0, 1, 2, 3, 4);
        itemsAre(x, 1, 0, 5, 6);
        says("Promise 31", FIRST_THAT_FITS + ": BAD; NULL; STORE; INDEX");
        due("copy(4, 0, 3, 0, 0), no sheet and a lost one", x.copy(4, 0, 3, 0, 0), BAD);
        due("copy(3, 0, -1, 0, 0), a lost one and no sheet", x.copy(3, 0, -1, 0, 0), BAD);
        due("copy(2, 0, 3, 0, 0), of another form than a lost one had", x.copy(2, 0, 3, 0, 0), NULL);
        due("copy(3, 0, 2, 0, 0), of another form than a lost one had", x.copy(3, 0, 2, 0, 0), NULL);
        due("copy(3, -1, 0, 0, 0), lost and below 0", x.copy(3, -1, 0, 0, 0), NULL);
        due("copy(0, 9, 2, 0, 0), unlike and no item", x.copy(0, 9, 2, 0, 0), STORE);
        due("copy(0, 0, 2, 0, -1), unlike and below 0", x.copy(0, 0, 2, 0, -1), STORE);
    }

    private static void write() {
        says("Promise 32", "as many as there are items and GRAVES: how many");
        GraveOrder x = row(3);
        for (int size = 0; size <= 5; size++) {
            items(x, 0, 1, new int[size]);
            for (int i = 0; i < size; i++) {
                x.put(0, 1, i, 300);
            }
            due("write(0) of " + size + " items", x.write(0), Math.min(size, 3));
            for (int i = 0; i < size; i++) {
                due("get(0, 1, " + i + ")", x.get(0, 1, i), i < 3 ? i : 300);
            }
        }
        x.sheet(1, 2, 40);
        due("write(1) of forty items", x.write(1), 3);
        x.sheet(3, 0, 8);
        due("write(3) without graves", emptyWithSheet().write(3), 0);
        says("Promise 32", "BAD");
        for (int s : beyond(0, 3)) {
            due("write(" + s + ")", x.write(s), BAD);
        }
        says("Promise 32", "NULL");
        due("write(2)", x.write(2), NULL);
        due("count(8)", x.count(8), 1);
        says("Promise 32", "NOT");
        GraveOrder y = noOrder();
        items(y, 0, 0, 8, 9);
        due("write(0), none can be", y.write(0), NOT);
        due("get(0, 0, 0)", y.get(0, 0, 0), 8);
        y.sheet(1, 0, 0);
        due("write(1) of no items, none can be", y.write(1), NOT);
        says("Promise 32", FIRST_THAT_FITS + ": BAD; NULL; NOT");
        due("write(2), lost, none can be", y.write(2), NULL);
        due("write(4), none can be", y.write(4), BAD);
    }

    private static GraveOrder emptyWithSheet() {
        GraveOrder x = new GraveOrder();
        x.sheet(3, 0, 8);
        return x;
    }

    private static void count() {
        says("Promise 33", "0 GRAVES, 1 TELLINGS");
        GraveOrder x = graves(8);
        due("count(0)", x.count(0), 8);
        tellings(x, 60, 0);
        due("count(1)", x.count(1), 60);
        x.asOf(0);
        due("count(1)", x.count(1), 60);
        says("Promise 33", "2 KINDS that some GRAVE HAS (bits), 3 how many KINDS GRAVES HAVE, all GRAVES together");
        due("count(2)", x.count(2), 512);
        due("count(3)", x.count(3), 1);
        GraveOrder y = graves(5);
        items(y, 0, 0, 1, 1, 1, 1, 1, 1, 1, 1, 1, 1);
        for (int g = 0; g < 5; g++) {
            y.read(0, g, g);
            due("count(2)", y.count(2), 1023);
            due("count(3)", y.count(3), 10 * g + 10);
        }
        y.asOf(2);
        due("count(1), as of 2", y.count(1), 50);
        due("count(3), as of 2", y.count(3), 30);
        told(y, "0:-0", 4);
        due("count(3), as of 2", y.count(3), 30);
        due("count(2) without graves", new GraveOrder().count(2), 0);
        due("count(3) without graves", new GraveOrder().count(3), 0);
        says("Promise 33", "4 OVER, 5 bytes of the LINE, 6 AS OF, 7 ROBBED ones (bits)");
        for (int i = 0; i < 17; i++) {
            x.over(1, 0);
        }
        due("count(4)", x.count(4), 16);
        for (int i = 0; i < 41; i++) {
            x.type(0);
        }
        due("count(5)", x.count(5), 40);
        due("count(6)", x.count(6), 0);
        for (int g = 0; g < 8; g++) {
            x.robbed(g, 1);
        }
        due("count(7)", x.count(7), 255);
        says("Promise 33", "8 the number of the latest FINDING (0 before any)");
        due("count(8)", x.count(8), 0);
        x.sheet(0, 0, -1);
        due("count(8)", x.count(8), 5);
        x.lose(0);
        due("count(8)", x.count(8), 1);
        x.sheet(0, 0, 1);
        x.lose(4);
        due("count(8), neither a good call nor BAD changes it", x.count(8), 1);
        says("Promise 33", "BAD");
        for (int what : beyond(0, 8)) {
            due("count(" + what + ")", x.count(what), BAD);
        }
    }

    private static long digestOf(long... all) {
        long h = 17;
        for (long a : all) {
            h = 31 * h + a;
        }
        return h;
    }

    private static void digest() {
        says("Promise 34", "of GRAVES has(), first(), places(), years() 0, 1, nearest(), where there are none");
        due("digest() of a new object", new GraveOrder().digest(), digestOf(0, 0, 0, 0, 0, 0, 999, 0, 0,
            0, 1, 1, 1, 0, 1, 0, NOT, 0, 0, 0, 0, 0, 0, 0, 0, 0, 0));
        says("Promise 34", "(as they are told), of one grave, whose phases(2, NONE) are refused");
        GraveOrder one = new GraveOrder();
        one.grave(0, 99);
        due("digest() of one grave", one.digest(), digestOf(1, 0, 0, 0, 0, 0, 999, 0, 0,
            0, 0, 1, 0, 99, NONE,
            0, 1, 1, 1, 0, 1, 0, NOT, 0, 0, 0, 0, 0, 0, 0, 0, 0, 0));
        says("Promise 34", "(as they are told), where none can be");
        long refused = digestOf(2, 3, 3, 3, 2, 0, 999, 0, 0,
            3, NOT, NOT, NOT, NOT, 1,
            1, NOT, NOT, NOT, NOT, 0,
            NOT, NOT, NOT, 0, LONG_NOT, LONG_NOT, NOT, NOT,
            NOT, NOT, NOT, NOT, NOT, NOT, NOT, NOT, NOT, NOT);
        due("digest(), none can be", noOrder().digest(), refused);
        says("Promise 34", "count() 0 to 7, and not 8");
        GraveOrder found = noOrder();
        found.lose(0);
        due("digest() after a finding", found.digest(), refused);
        due("count(8) after digest()", found.count(8), 1);
        says("Promise 34", "of each thing all that is told of it, then of the next one");
        GraveOrder x = new GraveOrder();
        x.grave(4, 9);
        x.grave(2, 5);
        x.grave(0, 7);
        x.over(1, 0);
        x.over(2, 1);
        x.robbed(2, 1);
        told(x, "0:0,9;1:2;2:0,2", 5);
        x.asOf(6);
        x.weight(0, 2);
        type(x, "0:");
        due("digest() of three graves", x.digest(), digestOf(3, 5, 517, 5, 2, 2, 6, 4, 2,
            513, 0, 1, 4, 5, 2,
            4, 1, 2, 4, 5, 2,
            5, 2, 4, 4, 7, 0,
            2, 1, 0, 0, 2, 1, 1, 2,
            1, 0, 0, 0, 0, 0, 0, 0, 0, 0));
        says("Promise 34", "spread(0, 1), mean() 0, 1, leftOut()");
        due("digest() of three graves, some orders of which have a gap", graves(3, "0:0;2:0").digest(),
            digestOf(3, 2, 1, 2, 0, 0, 999, 0, 0,
                1, 0, 7, 0, 99, 2,
                0, 2, 5, 0, 99, 0,
                1, 1, 7, 0, 99, 0,
                0, 4, 1, 4, 1, 3, 0, 0,
                0, 0, 0, 0, 0, 0, 0, 0, 0, 0));
        says("Promise 34", "as longs that wrap");
        GraveOrder y = graves(8);
        long h = digestOf(8, 0, 0, 0, 0, 0, 999, 0, 0);
        for (int g = 0; g < 8; g++) {
            long[] ofGrave = {0, g, 255, 0, 99, NONE};
            for (long a : ofGrave) {
                h = 31 * h + a;
            }
        }
        long[] rest = {0, 40320, 1, 40320, 0, 1, 0, 0, 0, 0, 0, 0, 0, 0, 0, 0, 0, 0};
        for (long a : rest) {
            h = 31 * h + a;
        }
        due("digest() of eight like graves", y.digest(), h);
    }

    public static void main(String[] args) {
        newObject();
        grave();
        robbed();
        weight();
        over();
        type();
        wipe();
        fault();
        tell();
        read();
        readRefused();
        asOf();
        has();
        gaps();
        best();
        first();
        sure();
        places();
        spread();
        mean();
        leftOutAndMended();
        phases();
        years();
        fresh();
        alike();
        nearest();
        sheet();
        lose();
        put();
        putRefused();
        get();
        copy();
        copyRefused();
        write();
        count();
        digest();
        end();
    }
}
