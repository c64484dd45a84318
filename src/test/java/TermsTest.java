/**
 * The sections ahead of the promises: each sentence of them that names a boundary case has a test of its own,
 * which bears its words.
 */
public final class TermsTest extends Due {
    // ---- What it is

    private static void eightGraves() {
        says("1", "GRAVES, 8 at most");
        GraveOrder x = new GraveOrder();
        due("count(0) of none", x.count(0), 0);
        for (int g = 0; g < 8; g++) {
            due("grave(0, 99)", x.grave(0, 99), g);
            due("count(0)", x.count(0), g + 1);
        }
        due("grave(0, 99), the ninth", x.grave(0, 99), FULL);
        due("grave(5, 5), the ninth", x.grave(5, 5), FULL);
        due("count(0) of eight", x.count(0), 8);
        due("best(1) of eight", x.best(1), 40320);
    }

    private static void yearsOfGraves() {
        says("1", "YEARS from, to (0 to 99");
        GraveOrder x = new GraveOrder();
        int[][] bad = {{-1, -1}, {-1, 0}, {-1, 99}, {0, 100}, {99, 100}, {100, 100}, {100, 101},
            {LEAST, LEAST}, {LEAST, 0}, {LEAST, MOST}, {0, MOST}, {MOST, MOST}};
        for (int[] years : bad) {
            due("grave(" + years[0] + ", " + years[1] + ")", x.grave(years[0], years[1]), BAD);
        }
        due("count(0)", x.count(0), 0);
        due("grave(0, 99)", x.grave(0, 99), 0);
        due("grave(0, 0)", x.grave(0, 0), 1);
        due("grave(99, 99)", x.grave(99, 99), 2);
    }

    private static void secondNotLess() {
        says("1", "the second not less");
        GraveOrder x = new GraveOrder();
        due("grave(50, 49)", x.grave(50, 49), BAD);
        due("grave(1, 0)", x.grave(1, 0), BAD);
        due("grave(99, 98)", x.grave(99, 98), BAD);
        due("grave(99, 0)", x.grave(99, 0), BAD);
        due("grave(0, -1)", x.grave(0, -1), BAD);
        due("grave(50, 50)", x.grave(50, 50), 0);
        due("grave(50, 51)", x.grave(50, 51), 1);
    }

    private static void dugInOneOfThese() {
        says("1", "it was dug in one of these");
        int[][] all = {{0, 0}, {0, 99}, {99, 99}, {13, 14}};
        for (int[] years : all) {
            GraveOrder x = new GraveOrder();
            x.grave(years[0], years[1]);
            due("years(0, 0, 0)", x.years(0, 0, 0), years[0]);
            due("years(0, 0, 1)", x.years(0, 0, 1), years[1]);
        }
    }

    private static void notRobbedAtFirst() {
        says("1", "ROBBED or not (not at first)");
        GraveOrder x = new GraveOrder();
        for (int g = 0; g < 8; g++) {
            x.grave(0, 99);
            due("count(7), the newest is not robbed", x.count(7), (1 << g) - 1);
            due("robbed(" + g + ", 1)", x.robbed(g, 1), 0);
        }
        due("count(7), all robbed", x.count(7), 255);
    }

    private static void theLastCall() {
        says("What it is", "at most 512 calls after it has been made");
        GraveOrder x = new GraveOrder();
        for (int call = 1; call <= 510; call += 2) {
            due("type(48), call " + call, x.type(48), 1);
            due("wipe(), call " + (call + 1), x.wipe(), 1);
        }
        due("grave(3, 4), call 511", x.grave(3, 4), 0);
        due("years(0, 0, 1), call 512", x.years(0, 0, 1), 4);
    }

    // ---- Terms

    private static void kindsZeroToNine() {
        says("Terms", "KINDS are 0 to 9");
        GraveOrder x = graves(1, "0:0", "0:9");
        due("has(0), kinds 0 and 9", x.has(0), 513);
        due("weight(0, 1)", x.weight(0, 1), 1);
        due("weight(9, 1)", x.weight(9, 1), 1);
        due("mended(0)", x.mended(0), 0);
        due("mended(9)", x.mended(9), 0);
        due("years(1, 0, 0)", x.years(1, 0, 0), 0);
        due("years(1, 9, 1)", x.years(1, 9, 1), 99);
        due("fresh(1023, 1)", x.fresh(1023, 1), 0);
        for (int kind : beyond(0, 9)) {
            due("weight(" + kind + ", 1)", x.weight(kind, 1), BAD);
            due("mended(" + kind + ")", x.mended(kind), BAD);
            due("years(1, " + kind + ", 0)", x.years(1, kind, 0), BAD);
        }
        for (int kinds : beyond(0, 1023)) {
            due("fresh(" + kinds + ", 0)", x.fresh(kinds, 0), BAD);
        }
    }

    private static void weightZeroToThree() {
        says("Terms", "a WEIGHT (0 to 3; 1 at first)");
        GraveOrder x = new GraveOrder();
        for (int kind = 0; kind < 10; kind++) {
            due("weight(" + kind + ", 3), 1 at first", x.weight(kind, 3), 1);
            for (int v : beyond(0, 3)) {
                due("weight(" + kind + ", " + v + ")", x.weight(kind, v), BAD);
            }
            due("weight(" + kind + ", 0)", x.weight(kind, 0), 3);
            due("weight(" + kind + ", 2)", x.weight(kind, 2), 0);
            due("weight(" + kind + ", 1)", x.weight(kind, 1), 2);
            due("weight(" + kind + ", 1)", x.weight(kind, 1), 1);
        }
    }

    private static void sixteenOvers() {
        says("Terms", "OVER, 16 at most");
        GraveOrder x = graves(8);
        int told = 0;
        due("count(4) of none", x.count(4), 0);
        for (int b = 0; b < 7 && told < 16; b++) {
            for (int a = b + 1; a < 8 && told < 16; a++) {
                told++;
                due("over(" + a + ", " + b + ")", x.over(a, b), told);
                due("count(4)", x.count(4), told);
            }
        }
        due("over(7, 6), the 17th", x.over(7, 6), FULL);
        due("over(1, 0), told before", x.over(1, 0), FULL);
        due("count(4)", x.count(4), 16);
        due("sure(0, 7)", x.sure(0, 7), 1);
        due("sure(6, 7), the 17th does not hold", x.sure(6, 7), 0);
    }

    private static void dugLater() {
        says("Terms", "a GRAVE lies over another one, so it was dug later");
        GraveOrder x = graves(2);
        items(x, 0, 0, 0, 1);
        due("gaps(0, 1) of 0 1, none over", x.gaps(0, 1), 1);
        x.over(0, 1);
        due("gaps(0, 1) of 0 1, 0 over 1", x.gaps(0, 1), 0);
        items(x, 0, 0, 1, 0);
        due("gaps(0, 1) of 1 0, 0 over 1", x.gaps(0, 1), 1);
        due("first(0)", x.first(0), 1);
        x.robbed(0, 1);
        x.robbed(1, 1);
        due("first(0), both robbed", x.first(0), 1);
    }

    private static void fortyBytes() {
        says("Terms", "a LINE, a text of up to 40 bytes");
        GraveOrder x = graves(1);
        for (int i = 1; i <= 40; i++) {
            due("type, byte " + i, x.type(i == 1 ? '0' : i == 2 ? ':' : i % 2 == 1 ? '5' : ','), i);
        }
        due("count(5)", x.count(5), 40);
        due("type('6'), byte 41", x.type('6'), FULL);
        due("count(5)", x.count(5), 40);
        due("fault(), not ended, without room to end it", x.fault(), 40);
        due("tell(0)", x.tell(0), NOT);
        due("wipe()", x.wipe(), 40);
        type(x, "0:5,5,5,5,5,5,5,5,5,5,5,5,5,5,5,5,5,-5,6");
        due("count(5), ended", x.count(5), 40);
        due("fault(), ended", x.fault(), NONE);
        due("tell(0)", x.tell(0), 19);
        due("has(0)", x.has(0), 64);
    }

    private static void faultOf(int n, String line, int due) {
        GraveOrder x = graves(n);
        type(x, line);
        due("fault() of '" + line + "' with " + n + " graves", x.fault(), due);
        due("tell(0) of '" + line + "'", x.tell(0) > 0 ? NONE : NOT, due == NONE ? NONE : NOT);
    }

    private static void partsOfALine() {
        says("Terms", "parts with ; between them");
        faultOf(2, "0:1;1:2", NONE);
        faultOf(2, "0:1;0:1;1:1", NONE);
        faultOf(2, ";0:1", 0);
        faultOf(2, "0:1;", 4);
        faultOf(2, "0:1;;1:2", 4);
        faultOf(2, "0;1:1", 1);
        faultOf(2, "0:;1:1", 2);
        faultOf(2, "0:1,;1:1", 4);
        faultOf(2, "0:-;1:1", 3);
        says("Terms", "a GRAVE's number (a figure)");
        faultOf(8, "0:1", NONE);
        faultOf(8, "7:1", NONE);
        faultOf(8, "/:1", 0);
        faultOf(8, "::1", 0);
        faultOf(8, "-1:1", 0);
        faultOf(8, "01:1", 1);
        faultOf(8, "a:1", 0);
        says("Terms", "a GRAVE's number (a figure), :");
        faultOf(2, "0", 1);
        faultOf(2, "0,1", 1);
        faultOf(2, "0-1", 1);
        faultOf(2, "01", 1);
        faultOf(2, "0::1", 2);
        says("Terms", "then KINDS (figures) with , between them");
        faultOf(2, "0:0,9", NONE);
        faultOf(2, "0:/", 2);
        faultOf(2, "0::", 2);
        faultOf(2, "0:10", 3);
        faultOf(2, "0:,1", 2);
        faultOf(2, "0:1,", 4);
        faultOf(2, "0:1,,2", 4);
        faultOf(2, "0:1:2", 3);
        faultOf(2, "0:1 ,2", 3);
        says("Terms", "each perhaps with - ahead of it");
        faultOf(2, "0:-0,-9", NONE);
        faultOf(2, "0:-1,1,-1", NONE);
        faultOf(2, "0:-", 3);
        faultOf(2, "0:--1", 3);
        faultOf(2, "0:1-", 3);
        faultOf(2, "0:-,1", 3);
        faultOf(2, "0:-:", 3);
        faultOf(2, "0:-/", 3);
        faultOf(2, "0:1;-0:1", 4);
    }

    private static void thereOrNot() {
        says("Terms", "there is one there, or (with -) there is none, after all");
        String[] lines = {"0:3", "0:-3", "0:-3", "0:-3,3", "0:3,-3", "0:3;0:-3;0:3"};
        int[] told = {1, 1, 1, 2, 2, 3};
        int[] has = {8, 0, 0, 8, 0, 8};
        GraveOrder x = graves(2, "1:3");
        for (int i = 0; i < lines.length; i++) {
            due("tell(0) of '" + lines[i] + "'", told(x, lines[i], 0), told[i]);
            due("has(0) after '" + lines[i] + "'", x.has(0), has[i]);
        }
        due("has(1), of which nothing more was told", x.has(1), 8);
        due("tell(1) of '1:-7', which it has not", told(x, "1:-7", 1), 1);
        due("count(1)", x.count(1), 12);
        due("has(1)", x.has(1), 8);
    }

    private static void placeOfTheFault() {
        says("Terms", "The FAULT is the place of the first byte with which it cannot go on");
        String good = "0:1,-2;1:3";
        int[] wrong = {'x', 0, 255, '\n', ' '};
        for (int b : wrong) {
            for (int i = 0; i < good.length(); i++) {
                GraveOrder x = graves(2);
                type(x, good.substring(0, i));
                x.type(b);
                type(x, good.substring(i) + "x");
                due("fault(), byte " + b + " at " + i + " of '" + good + "'", x.fault(), i);
            }
        }
        says("Terms", "of one that is not ended, its end");
        int[] ends = {0, 1, 2, NONE, 4, 5, NONE, 7, 8, 9, NONE};
        for (int i = 0; i <= good.length(); i++) {
            faultOf(2, good.substring(0, i), ends[i]);
        }
        says("Terms", "of an empty LINE 0");
        due("fault() of an empty line without graves", new GraveOrder().fault(), 0);
        GraveOrder x = graves(2);
        due("fault() of an empty line", x.fault(), 0);
        type(x, "0:1");
        x.wipe();
        due("fault() of a wiped line", x.fault(), 0);
        told(x, "0:1", 0);
        due("fault() of a told line", x.fault(), 0);
    }

    private static void graveThatThereIsNot() {
        says("Terms", "a GRAVE that there is not: its figure");
        for (int n = 0; n <= 8; n++) {
            for (int g = 0; g <= 9; g++) {
                faultOf(n, g + ":1", g < n ? NONE : 0);
            }
        }
        faultOf(2, "0:1;2:1", 4);
        faultOf(2, "0:1,-2;1:3;9:1", 11);
        GraveOrder x = graves(1);
        type(x, "0:1;1:1");
        due("fault(), grave 1 is not there yet", x.fault(), 4);
        x.grave(0, 0);
        due("fault(), grave 1 is there now", x.fault(), NONE);
        due("tell(0)", x.tell(0), 2);
    }

    private static void timeOfTellings() {
        says("Terms", "told at a TIME (0 to 999");
        GraveOrder x = graves(1);
        items(x, 0, 0, 1);
        type(x, "0:1");
        for (int time : beyond(0, 999)) {
            due("tell(" + time + ")", x.tell(time), BAD);
            due("read(0, 0, " + time + ")", x.read(0, 0, time), BAD);
            due("asOf(" + time + ")", x.asOf(time), BAD);
        }
        due("tell(0)", x.tell(0), 1);
        due("read(0, 0, 0)", x.read(0, 0, 0), 1);
        due("tell(999)", told(x, "0:2", 999), 1);
        due("read(0, 0, 999)", x.read(0, 0, 999), 1);
        due("asOf(0)", x.asOf(0), 999);
        due("asOf(999)", x.asOf(999), 0);
        says("Terms", "not less than the one ahead");
        due("tell(998), the last one was at 999", told(x, "0:3", 998), BAD);
        due("read(0, 0, 998)", x.read(0, 0, 998), BAD);
        due("tell(0)", x.tell(0), BAD);
        due("tell(999), as the one ahead", x.tell(999), 1);
        GraveOrder one = graves(1);
        due("tell(6), the first of all", told(one, "0:1", 6), 1);
        due("tell(5), less than the first", told(one, "0:2", 5), BAD);
        due("tell(6), as the first", one.tell(6), 1);
        GraveOrder y = graves(1, "0:1");
        due("tell(1)", told(y, "0:2", 1), 1);
        due("tell(0), one less", told(y, "0:3", 0), BAD);
        due("tell(1), as the one ahead", y.tell(1), 1);
        due("tell(2), one more", told(y, "0:4", 2), 1);
        y.asOf(0);
        due("tell(1), as of 0", told(y, "0:5", 1), BAD);
        due("tell(2), as of 0", y.tell(2), 1);
    }

    private static void sixtyTellings() {
        says("Terms", "60 TELLINGS at most (each KIND of a LINE is one)");
        GraveOrder x = graves(2);
        due("tell(0), the same kind three times", told(x, "0:9,9,-9", 0), 3);
        due("count(1)", x.count(1), 3);
        tellings(x, 55, 0);
        due("count(1)", x.count(1), 58);
        due("tell(0), two of three", told(x, "1:1;0:-9,5", 0), 2);
        due("count(1)", x.count(1), 60);
        due("has(1)", x.has(1), 2);
        due("has(0), the third was not told", x.has(0), 0);
        due("tell(0), the 61st", told(x, "1:-1", 0), 0);
        items(x, 0, 0, 1, 1);
        due("read(0, 1, 0), the 61st", x.read(0, 1, 0), 0);
        due("count(1)", x.count(1), 60);
        due("has(1)", x.has(1), 2);
        x.asOf(0);
        due("tell(5), none more as of 0 either", told(x, "1:-1", 5), 0);
        GraveOrder y = graves(1);
        tellings(y, 59, 3);
        due("tell(3), the 60th", told(y, "0:0", 3), 1);
        due("has(0), with the 60th", y.has(0), 513);
    }

    private static void asOfATime() {
        says("Terms", "AS OF a TIME (999 at first)");
        due("count(6)", new GraveOrder().count(6), 999);
        due("asOf(7)", new GraveOrder().asOf(7), 999);
        GraveOrder x = graves(1);
        told(x, "0:0", 999);
        due("has(0), told at 999", x.has(0), 1);
        says("Terms", "if what was told last of it up to then says so");
        GraveOrder y = graves(2);
        told(y, "0:1;1:2", 0);
        told(y, "0:-1,2", 10);
        told(y, "0:1", 10);
        told(y, "0:-1", 11);
        told(y, "0:1;1:-2", 999);
        int[] times = {0, 1, 9, 10, 11, 12, 998, 999};
        int[] ofZero = {2, 2, 2, 6, 4, 4, 4, 6};
        int[] ofOne = {4, 4, 4, 4, 4, 4, 4, 0};
        for (int i = 0; i < times.length; i++) {
            y.asOf(times[i]);
            due("has(0) as of " + times[i], y.has(0), ofZero[i]);
            due("has(1) as of " + times[i], y.has(1), ofOne[i]);
        }
        y.asOf(0);
        due("tell(999), later than as of", told(y, "0:9", 999), 1);
        due("has(0) as of 0", y.has(0), 2);
        says("Terms", "(it has none at first)");
        GraveOrder z = graves(8);
        for (int g = 0; g < 8; g++) {
            due("has(" + g + ")", z.has(g), 0);
        }
        told(z, "7:1", 1);
        z.asOf(0);
        due("has(7), ahead of all that was told", z.has(7), 0);
    }

    private static void fractions() {
        says("Terms", "FRACTIONS are told in lowest terms, above and below");
        GraveOrder x = graves(2, "0:0,1,2,3;1:2,3");
        due("alike(0, 1, 0) of 2 by 4", x.alike(0, 1, 0), 1);
        due("alike(0, 1, 1) of 2 by 4", x.alike(0, 1, 1), 2);
        told(x, "1:0", 0);
        due("alike(0, 1, 0) of 3 by 4", x.alike(0, 1, 0), 3);
        due("alike(0, 1, 1) of 3 by 4", x.alike(0, 1, 1), 4);
        told(x, "1:1", 0);
        due("alike(0, 1, 0) of 4 by 4", x.alike(0, 1, 0), 1);
        due("alike(0, 1, 1) of 4 by 4", x.alike(0, 1, 1), 1);
        GraveOrder y = graves(3, "0:0;2:0");
        due("mean(0) of 2 by 6", y.mean(0), 1);
        due("mean(1) of 2 by 6", y.mean(1), 3);
        y.weight(0, 2);
        due("mean(0) of 4 by 6", y.mean(0), 2);
        due("mean(1) of 4 by 6", y.mean(1), 3);
        says("Terms", "(0 by 1)");
        GraveOrder z = graves(4, "0:0,1,2;1:3");
        due("alike(0, 1, 0) of 0 by 4", z.alike(0, 1, 0), 0);
        due("alike(0, 1, 1) of 0 by 4", z.alike(0, 1, 1), 1);
        due("mean(0) of 0 by 24", z.mean(0), 0);
        due("mean(1) of 0 by 24", z.mean(1), 1);
    }

    private static void sheetsOfForms() {
        says("Terms", "SHEETS 0 .. 3 are LOST (at first)");
        GraveOrder x = new GraveOrder();
        for (int s = 0; s <= 3; s++) {
            due("lose(" + s + ")", x.lose(s), NULL);
            due("get(" + s + ", 0, 0)", x.get(s, 0, 0), LEAST);
            due("count(8)", x.count(8), 1);
            due("sheet(" + s + ", 0, 1)", x.sheet(s, 0, 1), 1);
            due("lose(" + s + ")", x.lose(s), 1);
        }
        for (int s : beyond(0, 3)) {
            due("sheet(" + s + ", 0, 1)", x.sheet(s, 0, 1), BAD);
        }
        says("Terms", "a FORM: 0 bytes, 1 shorts, 2 ints");
        int[] least = {-128, -32768, LEAST};
        int[] most = {127, 32767, MOST};
        for (int form = 0; form <= 2; form++) {
            due("sheet(1, " + form + ", 1)", x.sheet(1, form, 1), 1);
            x.put(1, form, 0, most[form]);
            due("get(1, " + form + ", 0)", x.get(1, form, 0), most[form]);
            x.put(1, form, 0, most[form] + 1);
            due("get(1, " + form + ", 0), one more wraps", x.get(1, form, 0), least[form]);
        }
        for (int form : beyond(0, 2)) {
            due("sheet(1, " + form + ", 1)", x.sheet(1, form, 1), BAD);
        }
        due("lose(1), not touched", x.lose(1), 1);
    }

    private static void itemsOfSheets() {
        says("Terms", "of 0 to 40 items");
        GraveOrder x = new GraveOrder();
        for (int form = 0; form <= 2; form++) {
            due("sheet(2, " + form + ", 0)", x.sheet(2, form, 0), 0);
            due("put(2, " + form + ", 0, 1)", x.put(2, form, 0, 1), INDEX);
            due("sheet(2, " + form + ", 40)", x.sheet(2, form, 40), 40);
            due("put(2, " + form + ", 39, 1)", x.put(2, form, 39, 1), 1);
            due("put(2, " + form + ", 40, 1)", x.put(2, form, 40, 1), INDEX);
            due("sheet(2, " + form + ", 41)", x.sheet(2, form, 41), BAD);
            due("sheet(2, " + form + ", the greatest)", x.sheet(2, form, MOST), BAD);
            due("sheet(2, " + form + ", -1)", x.sheet(2, form, -1), SIZE);
            due("get(2, " + form + ", 39), kept", x.get(2, form, 39), 1);
        }
        says("Terms", "items (0 at first)");
        for (int form = 0; form <= 2; form++) {
            x.sheet(3, form, 40);
            for (int i = 0; i < 40; i++) {
                due("get(3, " + form + ", " + i + ")", x.get(3, form, i), 0);
                x.put(3, form, i, 100 + i);
            }
        }
        x.lose(3);
        x.sheet(3, 2, 40);
        due("get(3, 2, 0), a new row behind a lost one", x.get(3, 2, 0), 0);
        due("get(3, 2, 39), a new row behind a lost one", x.get(3, 2, 39), 0);
    }

    private static void findings() {
        says("Terms", "FINDINGS (answers -10 less the number");
        GraveOrder x = new GraveOrder();
        due("count(8) before any", x.count(8), 0);
        x.sheet(0, 0, 1);
        x.sheet(1, 1, 1);
        says("Terms", "1 NULL: the SHEET is LOST");
        due("lose(2)", x.lose(2), -11);
        due("count(8)", x.count(8), 1);
        says("Terms", "2 INDEX: there is no such item");
        due("put(0, 0, 1, 0)", x.put(0, 0, 1, 0), -12);
        due("count(8)", x.count(8), 2);
        says("Terms", "3 CAST: it has another FORM");
        due("put(0, 1, 0, 0)", x.put(0, 1, 0, 0), -13);
        due("count(8)", x.count(8), 3);
        says("Terms", "4 STORE: unlike FORMS");
        due("copy(0, 0, 1, 0, 1)", x.copy(0, 0, 1, 0, 1), -14);
        due("count(8)", x.count(8), 4);
        says("Terms", "5 SIZE: below 0");
        due("sheet(2, 0, -1)", x.sheet(2, 0, -1), -15);
        due("count(8)", x.count(8), 5);
    }

    private static void longRefusals() {
        says("4", "Where the answer is a long, a refusal -x is the least long and x more");
        due("mean(2)", new GraveOrder().mean(2), -9223372036854775806L);
        due("mean(0), none can be", noOrder().mean(0), -9223372036854775805L);
        due("alike(0, 0, 0)", graves(2).alike(0, 0, 0), -9223372036854775806L);
        due("alike(0, 1, 0) of 0 by 0", graves(2).alike(0, 1, 0), -9223372036854775805L);
    }

    public static void main(String[] args) {
        eightGraves();
        yearsOfGraves();
        secondNotLess();
        dugInOneOfThese();
        notRobbedAtFirst();
        theLastCall();
        kindsZeroToNine();
        weightZeroToThree();
        sixteenOvers();
        dugLater();
        fortyBytes();
        partsOfALine();
        thereOrNot();
        placeOfTheFault();
        graveThatThereIsNot();
        timeOfTellings();
        sixtyTellings();
        asOfATime();
        fractions();
        sheetsOfForms();
        itemsOfSheets();
        findings();
        longRefusals();
        end();
    }
}
