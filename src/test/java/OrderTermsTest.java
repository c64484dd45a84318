/**
 * What the document says of orders, kinds, phases, years, new graves and alike ones: each sentence that names a
 * boundary case has a test of its own, which bears its words.
 */
public final class OrderTermsTest extends Due {
    private static final String ALL_KINDS = "0,1,2,3,4,5,6,7,8,9";

    // ---- 2: orders

    private static void eachGraveOnce() {
        says("2", "An ORDER has each GRAVE once");
        GraveOrder x = graves(3);
        int[][] orders = {{0, 1, 2}, {2, 1, 0}, {1, 2, 0}};
        int[][] none = {{}, {0}, {0, 1}, {0, 1, 1}, {0, 0, 0}, {0, 1, 3}, {1, 2, 3}, {0, 1, -1}, {0, 1, 2, 0},
            {0, 1, 2, 3}, {0, 1, LEAST}, {0, 1, MOST}, {0, 1, 34}, {0, 1, 258}};
        for (int[] order : orders) {
            items(x, 0, 2, order);
            due("gaps(0, 0)", x.gaps(0, 0), 0);
            due("gaps(0, 1)", x.gaps(0, 1), 1);
        }
        for (int[] order : none) {
            items(x, 0, 2, order);
            due("gaps(0, 0) of " + java.util.Arrays.toString(order), x.gaps(0, 0), NOT);
            due("gaps(0, 1) of " + java.util.Arrays.toString(order), x.gaps(0, 1), NOT);
        }
        items(x, 0, 0, 0, 1, 258);
        due("gaps(0, 0) of bytes 0 1 258, which are 0 1 2", x.gaps(0, 0), 0);
    }

    private static void withoutGraves() {
        says("2", "(without GRAVES there is one, of none, that CAN BE)");
        GraveOrder x = new GraveOrder();
        due("best(0)", x.best(0), 0);
        due("best(1)", x.best(1), 1);
        due("best(2)", x.best(2), 1);
        due("first(0)", x.first(0), NONE);
        due("spread(0, 0)", x.spread(0, 0), 1);
        due("spread(1, 0)", x.spread(1, 0), 0);
        due("spread(999, 1)", x.spread(999, 1), 1);
        due("mean(0)", x.mean(0), 0);
        due("mean(1)", x.mean(1), 1);
        due("leftOut()", x.leftOut(), 0);
        for (int kind = 0; kind < 10; kind++) {
            due("mended(" + kind + ")", x.mended(kind), 0);
            due("years(1, " + kind + ", 0)", x.years(1, kind, 0), NOT);
        }
        due("phases(1, NONE)", x.phases(1, NONE), NOT);
        due("fresh(0, 0)", x.fresh(0, 0), 1);
        due("fresh(1023, 1)", x.fresh(1023, 1), 0);
        x.sheet(0, 0, 0);
        due("gaps(0, 0) of no items", x.gaps(0, 0), 0);
        due("gaps(0, 1) of no items", x.gaps(0, 1), 1);
        due("write(0)", x.write(0), 0);
        x.sheet(0, 0, 1);
        due("gaps(0, 0) of one item", x.gaps(0, 0), NOT);
        due("write(0) of one item", x.write(0), 0);
    }

    /** Three graves that can stand in one order alone: 2, 1, 0. */
    private static GraveOrder turnedRow(String... lines) {
        GraveOrder x = graves(3, lines);
        x.over(0, 1);
        x.over(1, 2);
        return x;
    }

    /** Gaps of graves that stand as they are told, and how they change if one is robbed. */
    private static int gapsOf(int n, int robbed, String... lines) {
        GraveOrder x = row(n, lines);
        for (int g = 0; g < n; g++) {
            x.robbed(g, robbed >> g & 1);
        }
        return x.best(0);
    }

    private static void gapsOfAKind() {
        says("2", "GRAVES that have it not, and are not ROBBED");
        due("gaps of 1 0 1", gapsOf(3, 0, "0:5;2:5"), 1);
        due("gaps of 1 0 1, the gap robbed", gapsOf(3, 2, "0:5;2:5"), 0);
        due("gaps of 1 0 1, both ends robbed", gapsOf(3, 5, "0:5;2:5"), 1);
        due("gaps of 1 1 1", gapsOf(3, 0, "0:5;1:5;2:5"), 0);
        due("gaps of 1 0 0 1, one robbed", gapsOf(4, 4, "0:5;3:5"), 1);
        due("gaps of 1 0 0 1, all robbed", gapsOf(4, 15, "0:5;3:5"), 0);
        GraveOrder told = graves(3, "0:5;2:5");
        items(told, 0, 0, 2, 1, 0);
        due("gaps(0, 0) of 1 0 1", told.gaps(0, 0), 1);
        told.robbed(0, 1);
        due("gaps(0, 0) of 1 0 1, an end robbed", told.gaps(0, 0), 1);
        told.robbed(1, 1);
        due("gaps(0, 0) of 1 0 1, the gap robbed", told.gaps(0, 0), 0);
        says("2", "between the first and the last that have it");
        due("gaps of none", gapsOf(3, 0), 0);
        due("gaps of 0 1 0", gapsOf(3, 0, "1:5"), 0);
        due("gaps of 1 0 0", gapsOf(3, 0, "0:5"), 0);
        due("gaps of 0 0 1", gapsOf(3, 0, "2:5"), 0);
        due("gaps of 0 1 1 0", gapsOf(4, 0, "1:5;2:5"), 0);
        due("gaps of 1 0 0 0 0 0 0 1", gapsOf(8, 0, "0:5;7:5"), 6);
        due("gaps of 0 1 0 1 0 0 1 0", gapsOf(8, 0, "1:5;3:5;6:5"), 3);
        says("2", "GAPS of an ORDER: those of all KINDS, each times its WEIGHT");
        GraveOrder x = row(3, "0:0,9;2:0,9");
        int[][] weights = {{1, 1, 2}, {0, 1, 1}, {0, 0, 0}, {3, 0, 3}, {3, 3, 6}, {2, 3, 5}, {2, 1, 3}};
        for (int[] w : weights) {
            x.weight(0, w[0]);
            x.weight(9, w[1]);
            due("best(0) of weights " + w[0] + ", " + w[1], x.best(0), w[2]);
        }
        due("best(0), grave 0 stands last", turnedRow("0:0;2:0").best(0), 1);
        GraveOrder most = row(8, "0:" + ALL_KINDS, "7:" + ALL_KINDS);
        due("best(0), all kinds have all gaps", most.best(0), 60);
        for (int kind = 0; kind < 10; kind++) {
            most.weight(kind, 3);
        }
        due("best(0), the most gaps that there are", most.best(0), 180);
    }

    private static int canBe(GraveOrder x, int... order) {
        items(x, 3, 0, order);
        return x.gaps(3, 1);
    }

    private static void whatCanBe() {
        says("2", "if what lies OVER another one comes later");
        GraveOrder x = graves(3);
        x.over(2, 0);
        due("0 1 2, 2 over 0", canBe(x, 0, 1, 2), 1);
        due("2 1 0, 2 over 0", canBe(x, 2, 1, 0), 0);
        due("1 2 0, 2 over 0", canBe(x, 1, 2, 0), 0);
        due("best(1)", x.best(1), 3);
        x.over(1, 2);
        due("best(1), 1 over 2 over 0", x.best(1), 1);
        GraveOrder two = graves(3);
        two.over(0, 1);
        two.over(0, 2);
        due("best(1), 0 over both others", two.best(1), 2);
        due("1 0 2, 0 over both others", canBe(two, 1, 0, 2), 0);
        due("2 0 1, 0 over both others", canBe(two, 2, 0, 1), 0);
        due("2 1 0, 0 over both others", canBe(two, 2, 1, 0), 1);
        x.over(0, 1);
        due("best(1), three in a ring", x.best(1), NOT);
        due("0 2 1, three in a ring", canBe(x, 0, 2, 1), 0);
        says("2", "YEARS can be told to all, each one of its own, that never fall");
        GraveOrder y = new GraveOrder();
        y.grave(5, 9);
        y.grave(0, 5);
        due("0 1, both can have the year 5", canBe(y, 0, 1), 1);
        due("1 0", canBe(y, 1, 0), 1);
        GraveOrder z = new GraveOrder();
        z.grave(5, 9);
        z.grave(0, 4);
        due("0 1, one year too late", canBe(z, 0, 1), 0);
        due("1 0", canBe(z, 1, 0), 1);
        z.grave(0, 99);
        due("0 2 1, one with all years between them", canBe(z, 0, 2, 1), 0);
        due("1 2 0", canBe(z, 1, 2, 0), 1);
        due("best(1)", z.best(1), 3);
        z.robbed(0, 1);
        z.robbed(1, 1);
        due("best(1), robbed ones have years, too", z.best(1), 3);
        GraveOrder like = new GraveOrder();
        for (int g = 0; g < 8; g++) {
            like.grave(99, 99);
        }
        due("best(1), all in the year 99", like.best(1), 40320);
        int[] ends = {0, 98};
        for (int year : ends) {
            GraveOrder end = new GraveOrder();
            end.grave(year, year);
            due("0 alone, in the year " + year, canBe(end, 0), 1);
            due("best(2), one of the year " + year, end.best(2), 1);
            end.grave(year, year);
            due("1 0, both in the year " + year, canBe(end, 1, 0), 1);
            due("best(2), two of the year " + year, end.best(2), 1);
            end.grave(year + 1, year + 1);
            due("0 1 2, the last one a year later than " + year, canBe(end, 0, 1, 2), 1);
            due("0 2 1, the one of a year later between them", canBe(end, 0, 2, 1), 0);
            due("best(1), two and one of a year later", end.best(1), 2);
            due("best(2), two and one of a year later", end.best(2), 0);
        }
        GraveOrder stairs = new GraveOrder();
        for (int g = 7; g >= 0; g--) {
            stairs.grave(g, g);
        }
        due("best(1), each in a year of its own", stairs.best(1), 1);
        due("first(0)", stairs.first(0), 7);
        due("first(7)", stairs.first(7), 0);
    }

    private static void bestOnes() {
        says("2", "BEST are the ORDERS that CAN BE with the fewest GAPS");
        GraveOrder x = graves(3, "0:0;2:0");
        due("best(0)", x.best(0), 0);
        due("best(1)", x.best(1), 4);
        x.over(1, 0);
        x.over(2, 1);
        due("best(0), no order without gaps can be", x.best(0), 1);
        due("best(1)", x.best(1), 1);
        says("2", "the FIRST: the least row of them");
        GraveOrder y = graves(4, "3:0;1:0");
        int[] first = {0, 1, 3, 2};
        for (int place = 0; place < 4; place++) {
            due("first(" + place + ")", y.first(place), first[place]);
        }
        GraveOrder like = graves(8);
        for (int place = 0; place < 8; place++) {
            due("first(" + place + ") of eight like graves", like.first(place), place);
        }
        GraveOrder light = turnedRow("0:0;2:0;1:1");
        for (int kind = 0; kind < 10; kind++) {
            light.weight(kind, 0);
        }
        for (int place = 0; place < 3; place++) {
            due("first(" + place + "), no kind weighs", light.first(place), 2 - place);
            due("places(" + place + "), no kind weighs", light.places(place), 4 >> place);
        }
        due("best(1), no kind weighs", light.best(1), 1);
        due("sure(2, 0), no kind weighs", light.sure(2, 0), 1);
        due("sure(1, 0), no kind weighs", light.sure(1, 0), 1);
        says("2", "SURELY AHEAD is a GRAVE of another one, if it is so in all BEST");
        GraveOrder z = graves(3, "0:0;1:0,1;2:1");
        due("sure(0, 2), 2 1 0 is best, too", z.sure(0, 2), 0);
        due("sure(2, 0)", z.sure(2, 0), 0);
        z.over(2, 0);
        due("sure(0, 2)", z.sure(0, 2), 1);
        due("sure(0, 1), 1 0 2 can be but is not best", z.sure(0, 1), 1);
        due("sure(1, 2)", z.sure(1, 2), 1);
        due("sure(2, 0)", z.sure(2, 0), 0);
        GraveOrder gapped = graves(4, "0:0,1;1:1,2;2:2,3;3:3,0");
        int[][] pairs = {{0, 1}, {1, 0}, {0, 2}, {2, 0}, {1, 3}, {3, 1}};
        for (int[] p : pairs) {
            due("sure(" + p[0] + ", " + p[1] + ") of a ring of kinds", gapped.sure(p[0], p[1]), 0);
        }
        gapped.over(3, 0);
        due("best(0), none without gaps", gapped.best(0), 2);
        due("best(1), half of the sixteen", gapped.best(1), 8);
        due("sure(0, 3)", gapped.sure(0, 3), 1);
        due("sure(3, 0)", gapped.sure(3, 0), 0);
        due("sure(2, 1)", gapped.sure(2, 1), 0);
        GraveOrder back = turnedRow("0:0;2:0");
        due("sure(2, 0), the one order has a gap", back.sure(2, 0), 1);
        due("sure(0, 2), the one order has a gap", back.sure(0, 2), 0);
        due("sure(1, 0), the one order has a gap", back.sure(1, 0), 1);
        GraveOrder early = graves(5, "2:0;4:0");
        early.over(2, 0);
        early.over(2, 1);
        early.over(3, 2);
        early.over(4, 3);
        due("sure(0, 1), both ahead of a gap", early.sure(0, 1), 0);
        due("sure(1, 0), both ahead of a gap", early.sure(1, 0), 0);
        due("sure(1, 2), ahead of a gap", early.sure(1, 2), 1);
        says("2", "PLACES of a GRAVE: those at which it stands in some BEST (bits)");
        due("places(0) alone", graves(1).places(0), 1);
        due("places(0), one order", row(8).places(0), 1);
        due("places(7), one order", row(8).places(7), 128);
        due("places(3), any order", graves(8).places(3), 255);
        due("places(1), between two", graves(3, "0:0;1:0,1;2:1").places(1), 2);
        due("places(0), at both ends", graves(3, "0:0;1:0,1;2:1").places(0), 5);
        int[] places = {4, 2, 1};
        for (int g = 0; g < 3; g++) {
            due("places(" + g + "), the one order has a gap", turnedRow("0:0;2:0").places(g), places[g]);
        }
    }

    private static void noneCanBe() {
        says("2", "NOT, if none CAN BE");
        GraveOrder x = noOrder();
        for (int what = 0; what <= 2; what++) {
            due("best(" + what + ")", x.best(what), NOT);
        }
        due("first(0)", x.first(0), NOT);
        due("first(2), beyond", x.first(2), NOT);
        due("sure(0, 1)", x.sure(0, 1), NOT);
        due("places(1)", x.places(1), NOT);
        due("mean(0)", x.mean(0), LONG_NOT);
        due("mean(1)", x.mean(1), LONG_NOT);
        due("leftOut()", x.leftOut(), NOT);
        due("mended(0)", x.mended(0), NOT);
        due("mended(9), which none has", x.mended(9), NOT);
        due("phases(1, NONE)", x.phases(1, NONE), NOT);
        due("phases(1, 0)", x.phases(1, 0), NOT);
        due("years(0, 0, 0)", x.years(0, 0, 0), NOT);
        due("years(1, 0, 1)", x.years(1, 0, 1), NOT);
        due("fresh(0, 0)", x.fresh(0, 0), NOT);
        due("fresh(1, 1)", x.fresh(1, 1), NOT);
        x.sheet(0, 0, 2);
        due("write(0)", x.write(0), NOT);
        due("spread(0, 0), where none must be", x.spread(0, 0), 0);
        due("spread(999, 1), where none must be", x.spread(999, 1), 0);
        due("alike(0, 1, 1), where none must be", x.alike(0, 1, 1), 2);
        due("nearest(0), where none must be", x.nearest(0), 1);
        items(x, 0, 0, 0, 1);
        due("gaps(0, 0), where none must be", x.gaps(0, 0), 0);
        due("gaps(0, 1), where none must be", x.gaps(0, 1), 0);
        GraveOrder y = new GraveOrder();
        y.grave(0, 4);
        y.grave(5, 9);
        y.over(0, 1);
        due("best(0), years against over", y.best(0), NOT);
    }

    private static void spreads() {
        says("2", "SPREAD: how many ORDERS that CAN BE have just so many GAPS");
        GraveOrder x = graves(3, "0:0;2:0");
        x.weight(0, 2);
        int[] just = {4, 0, 2, 0};
        int[] upTo = {4, 4, 6, 6};
        for (int gaps = 0; gaps < 4; gaps++) {
            due("spread(" + gaps + ", 0)", x.spread(gaps, 0), just[gaps]);
        }
        due("spread(999, 0)", x.spread(999, 0), 0);
        for (int gaps = 0; gaps <= 6; gaps++) {
            int orders = 2 * (7 - gaps) * 720;
            due("spread(" + gaps + ", 0), two of eight have a kind", graves(8, "2:0;5:0").spread(gaps, 0), orders);
        }
        GraveOrder ring = graves(4, "0:0,1;1:1,2;2:2,3;3:3,0");
        int[] ofRing = {0, 0, 16, 0, 8, 0};
        for (int gaps = 0; gaps < 6; gaps++) {
            due("spread(" + gaps + ", 0) of a ring of kinds", ring.spread(gaps, 0), ofRing[gaps]);
        }
        says("2", "FEWER than a told number, or as many");
        for (int gaps = 0; gaps < 4; gaps++) {
            due("spread(" + gaps + ", 1)", x.spread(gaps, 1), upTo[gaps]);
        }
        due("spread(999, 1)", x.spread(999, 1), 6);
        GraveOrder most = row(8, "0:" + ALL_KINDS, "7:" + ALL_KINDS);
        for (int kind = 0; kind < 10; kind++) {
            most.weight(kind, 3);
        }
        due("spread(179, 1), one less than the most", most.spread(179, 1), 0);
        due("spread(180, 0), the most", most.spread(180, 0), 1);
        due("spread(180, 1), the most", most.spread(180, 1), 1);
        due("spread(181, 0), one more than the most", most.spread(181, 0), 0);
        due("spread(181, 1), one more than the most", most.spread(181, 1), 1);
        says("2", "MEAN of GAPS over all that CAN BE");
        due("mean(0) of 180 by 1", most.mean(0), 180);
        due("mean(1) of 180 by 1", most.mean(1), 1);
        due("mean(0) of 4 by 6", x.mean(0), 2);
        due("mean(1) of 4 by 6", x.mean(1), 3);
        x.over(1, 0);
        due("mean(0) of 2 by 3, half of them cannot be", x.mean(0), 2);
        due("mean(1) of 2 by 3", x.mean(1), 3);
        x.over(2, 1);
        due("mean(0) of 2 by 1", x.mean(0), 2);
        due("mean(1) of 2 by 1", x.mean(1), 1);
    }

    private static void turned() {
        says("2", "whether the FIRST told from its end on is a BEST one, too");
        due("best(2) of one grave", graves(1).best(2), 1);
        due("best(2) of two", graves(2).best(2), 1);
        due("best(2) of two, one over the other", row(2).best(2), 0);
        due("best(2) of eight", graves(8).best(2), 1);
        GraveOrder x = graves(3, "0:0;1:0,1;2:1");
        due("best(2) of three", x.best(2), 1);
        x.over(1, 0);
        due("best(2), the first can be only one way", x.best(2), 0);
        GraveOrder y = new GraveOrder();
        y.grave(0, 4);
        y.grave(4, 9);
        due("best(2), one year in common", y.best(2), 1);
        GraveOrder z = new GraveOrder();
        z.grave(0, 3);
        z.grave(4, 9);
        due("best(2), no year in common", z.best(2), 0);
    }

    // ---- 3: kinds, phases, years

    private static void leftOutOnes() {
        says("3", "the fewest KINDS (of like ones the least as bits)");
        due("leftOut() of like ones", graves(3, "0:7,8;1:8,9;2:7,9").leftOut(), 128);
        due("leftOut(), one against two", graves(3, "0:0,1,9;1:9;2:0,1").leftOut(), 0);
        due("leftOut(), one against two", graves(3, "0:0,1,9;1:9,5;2:0,1,5").leftOut(), 32);
        due("leftOut(), two of ten", row(3, "0:0,3,5;1:3,4;2:0,4,5").leftOut(), 33);
        due("leftOut(), all ten", row(3, "0:" + ALL_KINDS, "2:" + ALL_KINDS).leftOut(), 1023);
        says("3", "without which some ORDER that CAN BE has no GAPS");
        due("leftOut() of graves without finds", graves(8).leftOut(), 0);
        due("leftOut(), no gaps", row(3, "0:0;1:0,1;2:1").leftOut(), 0);
        due("leftOut(), an order that can be", graves(3, "0:0;2:0").leftOut(), 0);
        due("leftOut(), the one that can be", row(3, "0:0;2:0").leftOut(), 1);
        due("leftOut(), grave 0 stands last", turnedRow("0:0;2:0").leftOut(), 1);
        GraveOrder x = row(3, "0:0;2:0");
        x.robbed(1, 1);
        due("leftOut(), the gap robbed", x.leftOut(), 0);
        x.robbed(1, 0);
        x.weight(0, 0);
        due("leftOut(), without weight", x.leftOut(), 0);
        GraveOrder y = graves(3, "0:0,9;1:9,1;2:0,1");
        y.weight(9, 3);
        due("leftOut(), kinds are counted and not weighed", y.leftOut(), 1);
    }

    private static int mendedOf(int n, String line) {
        return row(n, line).mended(3);
    }

    private static void mendedOnes() {
        says("3", "the fewest FINDS to be thought away, and GAPS to be thought filled, together");
        due("mended(3) of 1 0 1, away or filled", mendedOf(3, "0:3;2:3"), 1);
        due("mended(3) of 1 1 0 1 1, filled", mendedOf(5, "0:3;1:3;3:3;4:3"), 1);
        due("mended(3) of 1 1 0 0 1, away", mendedOf(5, "0:3;1:3;4:3"), 1);
        due("mended(3) of 1 0 1 1 0 0 1, one away, one filled", mendedOf(7, "0:3;2:3;3:3;6:3"), 2);
        due("mended(3) of 1 0 1 1 0 1 0 1, all filled", mendedOf(8, "0:3;2:3;3:3;5:3;7:3"), 3);
        due("mended(3) of 1 0 0 0 0 0 0 1", mendedOf(8, "0:3;7:3"), 1);
        due("mended(3) of 1 0 1 0 1 0 1 0", mendedOf(8, "0:3;2:3;4:3;6:3"), 3);
        GraveOrder x = row(4, "0:3;1:3;3:3");
        x.robbed(2, 1);
        due("mended(3) of 1 1 R 1", x.mended(3), 0);
        GraveOrder y = row(7, "0:3;1:3;4:3;5:3;6:3");
        due("mended(3) of 1 1 0 0 1 1 1", y.mended(3), 2);
        y.robbed(2, 1);
        due("mended(3) of 1 1 R 0 1 1 1", y.mended(3), 1);
        says("3", "a KIND without GAPS 0");
        due("mended(3) of none", mendedOf(8, "0:1"), 0);
        due("mended(3) of one", mendedOf(3, "1:3"), 0);
        due("mended(3) of 0 1 1 0", mendedOf(4, "1:3;2:3"), 0);
        due("mended(3) of all", mendedOf(3, "0:3;1:3;2:3"), 0);
    }

    private static void partsAre(GraveOrder x, int n, int straddles, int... parts) {
        due("phases(" + n + ", NONE)", x.phases(n, NONE), straddles);
        for (int g = 0; g < parts.length; g++) {
            due("phases(" + n + ", " + g + ")", x.phases(n, g), parts[g]);
        }
    }

    private static void phasesOfTheFirst() {
        says("3", "cut into n parts (1 to 8");
        GraveOrder like = row(8);
        for (int n : beyond(1, 8)) {
            due("phases(" + n + ", NONE)", like.phases(n, NONE), BAD);
            due("phases(" + n + ", 0)", like.phases(n, 0), BAD);
        }
        partsAre(like, 1, 0, 0, 0, 0, 0, 0, 0, 0, 0);
        says("3", "none empty");
        partsAre(like, 8, 0, 0, 1, 2, 3, 4, 5, 6, 7);
        GraveOrder x = row(3, "0:0;1:0;2:0");
        partsAre(x, 3, 2, 0, 1, 2);
        says("3", "no more than there are GRAVES");
        for (int n = 4; n <= 8; n++) {
            due("phases(" + n + ", NONE) of three", x.phases(n, NONE), NOT);
            due("phases(" + n + ", 0) of three", x.phases(n, 0), NOT);
        }
        due("phases(2, NONE) of one", graves(1).phases(2, NONE), NOT);
        due("phases(1, 0) of one", graves(1).phases(1, 0), 0);
        says("3", "the number of parts in which some GRAVE HAS it, less 1");
        partsAre(row(3, "0:0;2:0"), 3, 1, 0, 1, 2);
        partsAre(row(3, "0:0;1:0;2:0"), 1, 0, 0, 0, 0);
        says("3", "(0 if none has it)");
        partsAre(row(2), 2, 0, 0, 1);
        partsAre(row(2, "0:0"), 2, 0, 0, 1);
        says("3", "times its WEIGHT, together");
        GraveOrder y = row(2, "0:0,1;1:0,1");
        due("phases(2, NONE)", y.phases(2, NONE), 2);
        y.weight(0, 3);
        due("phases(2, NONE) of weights 3, 1", y.phases(2, NONE), 4);
        y.weight(1, 0);
        due("phases(2, NONE) of weights 3, 0", y.phases(2, NONE), 3);
        says("3", "of like ones the least row (the first part the shortest first)");
        partsAre(like, 2, 0, 0, 1, 1, 1, 1, 1, 1, 1);
        partsAre(like, 3, 0, 0, 1, 2, 2, 2, 2, 2, 2);
        partsAre(like, 7, 0, 0, 1, 2, 3, 4, 5, 6, 6);
        partsAre(row(4, "0:0;1:0;2:1;3:1"), 3, 1, 0, 1, 2, 2);
        partsAre(row(4, "0:0;1:0;2:1;3:1"), 2, 0, 0, 0, 1, 1);
    }

    private static void yearsInTheFirst() {
        says("3", "the least, the greatest that it can have, if those of all never fall");
        GraveOrder x = new GraveOrder();
        x.grave(0, 90);
        x.grave(20, 99);
        x.grave(10, 60);
        x.over(1, 0);
        x.over(2, 1);
        int[] least = {0, 20, 20};
        int[] greatest = {60, 60, 60};
        for (int g = 0; g < 3; g++) {
            due("years(0, " + g + ", 0)", x.years(0, g, 0), least[g]);
            due("years(0, " + g + ", 1)", x.years(0, g, 1), greatest[g]);
        }
        GraveOrder same = new GraveOrder();
        same.grave(7, 7);
        same.grave(0, 99);
        same.grave(7, 7);
        same.over(1, 0);
        same.over(2, 1);
        due("years(0, 1, 0) between two of the year 7", same.years(0, 1, 0), 7);
        due("years(0, 1, 1) between two of the year 7", same.years(0, 1, 1), 7);
        says("3", "the least of those of GRAVES that HAVE it, the greatest");
        told(x, "0:0;2:0;1:1", 0);
        due("years(1, 0, 0)", x.years(1, 0, 0), 0);
        due("years(1, 0, 1)", x.years(1, 0, 1), 60);
        due("years(1, 1, 0), one grave's", x.years(1, 1, 0), 20);
        due("years(1, 1, 1), one grave's", x.years(1, 1, 1), 60);
        due("years(1, 9, 0), none has it", x.years(1, 9, 0), NOT);
        int[] ends = {0, 99};
        for (int year : ends) {
            GraveOrder end = new GraveOrder();
            end.grave(year, year);
            told(end, "0:4", 0);
            due("years(1, 4, 0) in the year " + year, end.years(1, 4, 0), year);
            due("years(1, 4, 1) in the year " + year, end.years(1, 4, 1), year);
        }
    }

    // ---- 4: new ones, alike ones

    private static void newGraves() {
        says("4", "not ROBBED, of any YEARS");
        GraveOrder x = row(2, "0:0;1:0");
        due("fresh(0, 0), it would be a gap between them", x.fresh(0, 0), 5);
        due("fresh(1, 0), of kind 0 anywhere", x.fresh(1, 0), 7);
        GraveOrder late = new GraveOrder();
        late.grave(99, 99);
        due("fresh(0, 0), ahead of one of the year 99 and behind it", late.fresh(0, 0), 3);
        says("4", "at a place (0: ahead of all, .. behind all)");
        due("fresh(0, 0) of one grave", graves(1).fresh(0, 0), 3);
        due("fresh(1, 0), ahead of all alone", row(3, "0:0,1;1:1;2:1").fresh(1, 0), 1);
        due("fresh(2, 0), behind all alone", row(3, "0:0;1:0;2:0,1").fresh(2, 0), 8);
        due("fresh(0, 0) of eight", graves(8).fresh(0, 0), 511);
        due("fresh(1, 0) of eight, behind all alone", row(8, "7:0").fresh(1, 0), 384);
        for (int place = 1; place < 8; place++) {
            GraveOrder x8 = row(8, (place - 1) + ":0;" + place + ":1");
            due("fresh(3, 0), between " + (place - 1) + " and " + place, x8.fresh(3, 0), 1 << place);
            due("fresh(3, 1), between " + (place - 1) + " and " + place, x8.fresh(3, 1), 0);
        }
        says("4", "GAPS of all then");
        GraveOrder y = row(3, "0:0;2:0");
        due("fresh(0, 1), the gap that is there stays", y.fresh(0, 1), 1);
        due("fresh(2, 1)", y.fresh(2, 1), 1);
        due("fresh(1, 1)", y.fresh(1, 1), 1);
        y.weight(0, 3);
        due("fresh(0, 1), of weight 3", y.fresh(0, 1), 3);
        y.robbed(1, 1);
        due("fresh(0, 1), grave 1 robbed", y.fresh(0, 1), 0);
        GraveOrder most = row(8, "0:" + ALL_KINDS);
        for (int kind = 0; kind < 10; kind++) {
            most.weight(kind, 3);
        }
        due("fresh(1023, 1)", most.fresh(1023, 1), 0);
        due("fresh(1023, 0)", most.fresh(1023, 0), 3);
        says("4", "the places with the fewest, as bits; how many GAPS that are");
        GraveOrder z = row(3, "0:0,1;1:0,1;2:2");
        due("fresh(5, 0), between 1 and 2", z.fresh(5, 0), 4);
        due("fresh(5, 1)", z.fresh(5, 1), 0);
        due("fresh(6, 0), of kinds 1 and 2", z.fresh(6, 0), 4);
        z.weight(2, 0);
        due("fresh(5, 0), kind 2 without weight", z.fresh(5, 0), 5);
    }

    private static void alikeOnes() {
        says("4", "by the WEIGHTS of KINDS that both HAVE, by those that one of both HAS");
        GraveOrder x = graves(3, "0:0,1;1:1,2");
        due("alike(0, 1, 0)", x.alike(0, 1, 0), 1);
        due("alike(0, 1, 1)", x.alike(0, 1, 1), 3);
        due("alike(1, 0, 1)", x.alike(1, 0, 1), 3);
        x.weight(1, 0);
        due("alike(0, 1, 0), kind 1 without weight", x.alike(0, 1, 0), 0);
        due("alike(0, 1, 1), kind 1 without weight", x.alike(0, 1, 1), 1);
        due("alike(0, 2, 0), one without kinds", x.alike(0, 2, 0), 0);
        due("alike(0, 2, 1), one without kinds", x.alike(0, 2, 1), 1);
        x.weight(0, 0);
        due("alike(0, 2, 0), none that weighs", x.alike(0, 2, 0), LONG_NOT);
        GraveOrder most = graves(2, "0:" + ALL_KINDS, "1:" + ALL_KINDS);
        due("alike(0, 1, 0), all in common", most.alike(0, 1, 0), 1);
        due("alike(0, 1, 1), all in common", most.alike(0, 1, 1), 1);
        says("4", "the other GRAVE most ALIKE, of like ones the least");
        GraveOrder y = graves(4, "0:0,1;1:0;2:1;3:0,1,2");
        due("nearest(0), 2 by 3 is more than 1 by 2", y.nearest(0), 3);
        due("nearest(1), 1 by 2 is more than 1 by 3", y.nearest(1), 0);
        due("nearest(3)", y.nearest(3), 0);
        told(y, "3:-1,-2", 0);
        due("nearest(0), 1 and 2 and 3 are like ones", y.nearest(0), 1);
        due("nearest(3), as grave 1", y.nearest(3), 1);
        says("4", "NONE: there is none with which it is (0 by 0 is not)");
        due("nearest(0) alone", graves(1, "0:0").nearest(0), NONE);
        due("nearest(0), all without kinds", graves(3).nearest(0), NONE);
        due("nearest(0), 0 by 0 with 1, 0 by 1 with 2", graves(3, "2:0").nearest(0), 2);
        due("nearest(2), 0 by 1 with both", graves(3, "2:0").nearest(2), 0);
        GraveOrder z = graves(2, "0:0;1:0");
        z.weight(0, 0);
        due("nearest(0), none that weighs", z.nearest(0), NONE);
    }

    public static void main(String[] args) {
        eachGraveOnce();
        withoutGraves();
        gapsOfAKind();
        whatCanBe();
        bestOnes();
        noneCanBe();
        spreads();
        turned();
        leftOutOnes();
        mendedOnes();
        phasesOfTheFirst();
        yearsInTheFirst();
        newGraves();
        alikeOnes();
        end();
    }
}
