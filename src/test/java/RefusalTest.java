import java.util.ArrayList;
import java.util.List;

/**
 * A refused call changes nothing but, where it is a FINDING, count() 8; nor does a call that only asks. Twins tell:
 * two objects are built alike, one of them is asked the call, and then all that can be seen of both is held together.
 * Nor does it matter whether an object was asked before a change.
 */
public final class RefusalTest extends Due {
    private interface Call {
        long on(GraveOrder x);
    }

    /** An object's past, and what the calls of the tables below need to know of it. */
    private abstract static class State {
        final String name;
        final int graves;
        final int lastTime;
        final int finding;

        State(String name, int graves, int lastTime, int finding) {
            this.name = name;
            this.graves = graves;
            this.lastTime = lastTime;
            this.finding = finding;
        }

        abstract void build(GraveOrder x);

        /** The refusals that only this state has. */
        abstract void refusals();
    }

    /** Sheet 0 is bytes, an order of three; 1 shorts; 2 ints, of no items; 3 is lost. The latest finding is STORE. */
    private static void sheets(GraveOrder x) {
        items(x, 0, 0, 1, 0, 2);
        items(x, 1, 1, 1, 0, 1, 300, -7);
        x.sheet(2, 2, 0);
        x.copy(0, 0, 1, 0, 0);
    }

    private static final class New extends State {
        New() {
            super("new", 0, 0, 0);
        }

        @Override
        void build(GraveOrder x) {
        }

        @Override
        void refusals() {
            refusedWithoutGraves();
        }
    }

    private static final class WithoutGraves extends State {
        WithoutGraves() {
            super("sheets and a line, no graves", 0, 0, 4);
        }

        @Override
        void build(GraveOrder x) {
            sheets(x);
            type(x, "0:1");
            x.weight(3, 0);
            x.asOf(17);
        }

        @Override
        void refusals() {
            refusedWithoutGraves();
        }
    }

    /** There is room for more of all, the line has a fault, and times later than as of are told. */
    private static final class Some extends State {
        Some() {
            super("three graves", 3, 7, 4);
        }

        @Override
        void build(GraveOrder x) {
            x.grave(10, 50);
            x.grave(5, 60);
            x.grave(0, 30);
            x.over(1, 0);
            x.robbed(2, 1);
            x.weight(0, 3);
            x.weight(4, 0);
            told(x, "0:0,1;1:1,4;2:0", 5);
            told(x, "0:2,-1", 7);
            x.asOf(6);
            sheets(x);
            type(x, "0:1,;");
        }

        @Override
        void refusals() {
            refusedInSome();
        }
    }

    private static final class NoneCanBe extends State {
        NoneCanBe() {
            super("no order can be", 3, 3, 4);
        }

        @Override
        void build(GraveOrder x) {
            x.grave(10, 20);
            x.grave(0, 5);
            x.grave(0, 99);
            x.over(1, 0);
            told(x, "0:0,1;1:1,4;2:0", 3);
            x.robbed(1, 1);
            sheets(x);
            type(x, "2:9");
        }

        @Override
        void refusals() {
            refusedWhereNoneCanBe();
        }
    }

    /** There is room for nothing more; the line has no fault. */
    private static final class Full extends State {
        Full() {
            super("all that there is room for", 8, 40, 4);
        }

        @Override
        void build(GraveOrder x) {
            for (int g = 0; g < 8; g++) {
                x.grave(10 * g, 10 * g + 29);
            }
            for (int i = 0; i < 16; i++) {
                x.over(4 + i % 4, i % 3);
            }
            items(x, 0, 0, 1, 0, 0, 1, 0, 0, 1, 0, 1, 1);
            for (int g = 0; g < 6; g++) {
                x.copy(0, 0, 0, 1, 9);
                x.put(0, 0, 0, g / 2 % 2);
                x.read(0, g, 35 + g);
            }
            x.robbed(3, 1);
            x.weight(2, 2);
            sheets(x);
            type(x, "0:1,1,1,1,1,1,1,1,1,1,1,1,1,1,1,1,1,1,-2");
        }

        @Override
        void refusals() {
            refusedWithoutRoom();
            toldNothing();
        }
    }

    private static final class FullOfGraves extends State {
        FullOfGraves() {
            super("eight graves, and room for all else", 8, 9, 4);
        }

        @Override
        void build(GraveOrder x) {
            for (int g = 0; g < 8; g++) {
                x.grave(50 - g, 50 + g);
            }
            x.over(7, 2);
            told(x, "0:0,1;7:1;3:0", 9);
            sheets(x);
            type(x, "7:7,");
        }

        @Override
        void refusals() {
            refused("grave(0, 99)", x -> x.grave(0, 99), FULL);
            refused("tell(9) of a line not ended", x -> x.tell(9), NOT);
        }
    }

    private static final class FullOfOvers extends State {
        FullOfOvers() {
            super("sixteen overs, and room for all else", 3, 2, 4);
        }

        @Override
        void build(GraveOrder x) {
            for (int g = 0; g < 3; g++) {
                x.grave(0, 80 + g);
            }
            for (int i = 0; i < 16; i++) {
                x.over(2, i % 2);
            }
            told(x, "0:0,1;2:1,0", 2);
            sheets(x);
            type(x, "0:");
        }

        @Override
        void refusals() {
            refused("over(0, 1)", x -> x.over(0, 1), FULL);
            refused("over(2, 0)", x -> x.over(2, 0), FULL);
            refused("tell(2) of a line not ended", x -> x.tell(2), NOT);
        }
    }

    private static final class FullOfBytes extends State {
        FullOfBytes() {
            super("forty bytes, and room for all else", 2, 0, 4);
        }

        @Override
        void build(GraveOrder x) {
            x.grave(0, 0);
            x.grave(0, 1);
            x.robbed(1, 1);
            x.over(1, 0);
            sheets(x);
            for (int i = 0; i < 20; i++) {
                type(x, i == 0 ? "1:" : i < 19 ? "3," : "-3");
            }
        }

        @Override
        void refusals() {
            refused("type('3')", x -> x.type('3'), FULL);
            refused("type(0)", x -> x.type(0), FULL);
        }
    }

    private static final State[] STATES = {new New(), new WithoutGraves(), new Some(), new NoneCanBe(), new Full(),
        new FullOfGraves(), new FullOfOvers(), new FullOfBytes()};

    // ---- what can be seen of an object; each group has an object of its own, so that none is called too often

    private static final int GROUPS = 6;

    private static List<Long> seen(GraveOrder x, State state, int group) {
        List<Long> seen = new ArrayList<>();
        switch (group) {
            case 0: seeAnswers(x, state, seen); break;
            case 1: seeTellings(x, state, seen); break;
            case 2: seeGraves(x, state, seen); break;
            case 3: seeLine(x, state, seen); break;
            case 4: seeSheets(x, seen); break;
            default: seeUseOfSheets(x, state, seen); break;
        }
        return seen;
    }

    private static void seeAnswers(GraveOrder x, State state, List<Long> seen) {
        seen.add(x.digest());
        seen.add((long) x.fault());
        for (int what = 0; what < 8; what++) {
            seen.add((long) x.count(what));
        }
        for (int a = 0; a < state.graves; a++) {
            seen.add((long) x.has(a));
            seen.add((long) x.first(a));
            seen.add((long) x.years(0, a, 0));
            seen.add((long) x.phases(2, a));
            for (int b = 0; b < state.graves; b++) {
                seen.add((long) x.sure(a, b));
                seen.add(x.alike(a, b, 1));
            }
        }
        for (int k = 0; k < 10; k++) {
            seen.add((long) x.mended(k));
            seen.add((long) x.years(1, k, 1));
            seen.add((long) x.fresh(1 << k, 0));
            seen.add((long) x.spread(k, 0));
        }
    }

    private static void seeTellings(GraveOrder x, State state, List<Long> seen) {
        int[] times = {0, 2, 3, 4, 5, 6, 7, 34, 35, 37, 39, 40, 41, 999};
        for (int time : times) {
            seen.add((long) x.asOf(time));
            for (int g = 0; g < state.graves; g++) {
                seen.add((long) x.has(g));
            }
            seen.add((long) x.count(1));
            seen.add((long) x.best(1));
        }
    }

    private static void seeGraves(GraveOrder x, State state, List<Long> seen) {
        for (int k = 0; k < 10; k++) {
            seen.add((long) x.weight(k, 1));
        }
        for (int g = 0; g < state.graves; g++) {
            seen.add((long) x.robbed(g, 0));
        }
        seen.add(x.digest());
        seen.add((long) x.over(0, 2));
        seen.add((long) x.grave(40, 60));
        seen.add((long) x.over(0, 3));
        seen.add((long) x.has(3));
        seen.add(x.digest());
    }

    private static void seeLine(GraveOrder x, State state, List<Long> seen) {
        seen.add((long) x.tell(state.lastTime - 1));
        seen.add((long) x.tell(state.lastTime));
        for (int g = 0; g < state.graves; g++) {
            seen.add((long) x.has(g));
        }
        seen.add((long) x.type(','));
        seen.add((long) x.type('7'));
        seen.add((long) x.fault());
        seen.add((long) x.wipe());
        seen.add((long) x.fault());
        seen.add((long) told(x, "0:5,6", state.lastTime - 1));
        seen.add((long) x.tell(state.lastTime));
        seen.add((long) x.count(1));
        seen.add(x.digest());
    }

    private static void seeSheets(GraveOrder x, List<Long> seen) {
        for (int s = 0; s < 4; s++) {
            for (int form = 0; form < 3; form++) {
                for (int i = 0; i < 6; i++) {
                    int item = x.get(s, form, i);
                    seen.add((long) item);
                    if (item == LEAST) {
                        seen.add((long) x.count(8));
                    }
                }
            }
        }
        for (int s = 0; s < 4; s++) {
            seen.add((long) x.lose(s));
        }
    }

    private static void seeUseOfSheets(GraveOrder x, State state, List<Long> seen) {
        for (int s = 0; s < 4; s++) {
            seen.add((long) x.gaps(s, 0));
            seen.add((long) x.gaps(s, 1));
            seen.add((long) x.read(s, 0, state.lastTime - 1));
            seen.add((long) x.read(s, 0, state.lastTime));
            seen.add((long) x.write(s));
            seen.add((long) x.count(1));
        }
        for (int s = 0; s < 4; s++) {
            for (int form = 0; form < 3; form++) {
                seen.add((long) x.put(s, form, 0, 200));
            }
        }
        seen.add((long) x.copy(0, 0, 0, 1, 2));
        seen.add((long) x.copy(1, 0, 1, 1, 4));
        seen.add(x.digest());
    }

    /** What is seen of a twin that was never asked. */
    private static List<List<Long>> untouched(State state) {
        List<List<Long>> all = new ArrayList<>();
        for (int group = 0; group < GROUPS; group++) {
            GraveOrder x = new GraveOrder();
            state.build(x);
            all.add(seen(x, state, group));
        }
        return all;
    }

    // ---- one call held against the untouched twin

    private static State state = STATES[0];
    private static List<List<Long>> twin = new ArrayList<>();

    private static void nothingChanges(String name, Call call, int finding) {
        for (int group = 0; group < GROUPS; group++) {
            GraveOrder x = new GraveOrder();
            state.build(x);
            call.on(x);
            due("count(8) after " + name, x.count(8), finding);
            due(name + " changed what group " + group + " shows", seen(x, state, group).equals(twin.get(group)) ? 0 : 1,
                0);
        }
    }

    private static void refused(String name, Call call, long answer) {
        GraveOrder x = new GraveOrder();
        state.build(x);
        due(name, call.on(x), answer);
        boolean found = answer <= NULL && answer >= SIZE;
        nothingChanges(name, call, found ? (int) (-10 - answer) : state.finding);
    }

    private static void refusedGet(int s, int form, int i, int finding) {
        Call call = x -> x.get(s, form, i);
        String name = "get(" + s + ", " + form + ", " + i + ")";
        GraveOrder x = new GraveOrder();
        state.build(x);
        due(name, call.on(x), LEAST);
        nothingChanges(name, call, finding == 0 ? state.finding : finding);
    }

    private static void asked(String name, Call call) {
        nothingChanges(name, call, state.finding);
    }

    // ---- the tables

    private static void badOfGraves() {
        int last = state.lastTime;
        refused("grave(-1, 5)", x -> x.grave(-1, 5), BAD);
        refused("grave(5, 4)", x -> x.grave(5, 4), BAD);
        refused("grave(0, 100)", x -> x.grave(0, 100), BAD);
        for (int g : beyond(0, state.graves - 1)) {
            refused("robbed(" + g + ", 1)", x -> x.robbed(g, 1), BAD);
            refused("over(" + g + ", 0)", x -> x.over(g, 0), BAD);
            refused("over(0, " + g + ")", x -> x.over(0, g), BAD);
            refused("read(0, " + g + ", " + last + ")", x -> x.read(0, g, last), BAD);
            refused("has(" + g + ")", x -> x.has(g), BAD);
            refused("sure(" + g + ", 0)", x -> x.sure(g, 0), BAD);
            refused("sure(0, " + g + ")", x -> x.sure(0, g), BAD);
            refused("places(" + g + ")", x -> x.places(g), BAD);
            refused("years(0, " + g + ", 0)", x -> x.years(0, g, 0), BAD);
            refused("alike(" + g + ", 0, 0)", x -> x.alike(g, 0, 0), LONG_BAD);
            refused("alike(0, " + g + ", 0)", x -> x.alike(0, g, 0), LONG_BAD);
            refused("nearest(" + g + ")", x -> x.nearest(g), BAD);
        }
        refused("robbed(0, 2)", x -> x.robbed(0, 2), BAD);
        refused("robbed(0, -1)", x -> x.robbed(0, -1), BAD);
        refused("over(0, 0)", x -> x.over(0, 0), BAD);
        refused("sure(0, 0)", x -> x.sure(0, 0), BAD);
        refused("alike(0, 0, 0)", x -> x.alike(0, 0, 0), LONG_BAD);
        refused("alike(0, 1, 2)", x -> x.alike(0, 1, 2), LONG_BAD);
    }

    private static void badOfLinesAndTimes() {
        refused("weight(10, 0)", x -> x.weight(10, 0), BAD);
        refused("weight(-1, 0)", x -> x.weight(-1, 0), BAD);
        refused("weight(0, 4)", x -> x.weight(0, 4), BAD);
        refused("weight(0, -1)", x -> x.weight(0, -1), BAD);
        refused("type(-1)", x -> x.type(-1), BAD);
        refused("type(256)", x -> x.type(256), BAD);
        for (int time : beyond(0, 999)) {
            refused("tell(" + time + ")", x -> x.tell(time), BAD);
            refused("read(0, 0, " + time + ")", x -> x.read(0, 0, time), BAD);
            refused("asOf(" + time + ")", x -> x.asOf(time), BAD);
        }
        int before = state.lastTime - 1;
        refused("tell(" + before + ")", x -> x.tell(before), BAD);
        refused("read(0, 0, " + before + ")", x -> x.read(0, 0, before), BAD);
        refused("read(3, 0, " + before + ")", x -> x.read(3, 0, before), BAD);
    }

    private static void badOfQuestions() {
        refused("gaps(4, 0)", x -> x.gaps(4, 0), BAD);
        refused("gaps(-1, 0)", x -> x.gaps(-1, 0), BAD);
        refused("gaps(0, 2)", x -> x.gaps(0, 2), BAD);
        refused("gaps(3, -1)", x -> x.gaps(3, -1), BAD);
        refused("best(3)", x -> x.best(3), BAD);
        refused("best(-1)", x -> x.best(-1), BAD);
        refused("first(-1)", x -> x.first(-1), BAD);
        refused("spread(-1, 0)", x -> x.spread(-1, 0), BAD);
        refused("spread(1000, 0)", x -> x.spread(1000, 0), BAD);
        refused("spread(0, 2)", x -> x.spread(0, 2), BAD);
        refused("mean(2)", x -> x.mean(2), LONG_BAD);
        refused("mean(-1)", x -> x.mean(-1), LONG_BAD);
        refused("mended(10)", x -> x.mended(10), BAD);
        refused("mended(-1)", x -> x.mended(-1), BAD);
        refused("phases(0, NONE)", x -> x.phases(0, NONE), BAD);
        refused("phases(9, NONE)", x -> x.phases(9, NONE), BAD);
        refused("phases(1, -2)", x -> x.phases(1, -2), BAD);
        refused("phases(1, 8)", x -> x.phases(1, 8), BAD);
        refused("phases(8, 9)", x -> x.phases(8, 9), BAD);
        refused("years(2, 0, 0)", x -> x.years(2, 0, 0), BAD);
        refused("years(1, 10, 0)", x -> x.years(1, 10, 0), BAD);
        refused("years(1, 0, 2)", x -> x.years(1, 0, 2), BAD);
        refused("fresh(1024, 0)", x -> x.fresh(1024, 0), BAD);
        refused("fresh(-1, 0)", x -> x.fresh(-1, 0), BAD);
        refused("fresh(0, 2)", x -> x.fresh(0, 2), BAD);
        refused("count(9)", x -> x.count(9), BAD);
        refused("count(-1)", x -> x.count(-1), BAD);
    }

    private static void badOfSheets() {
        for (int s : beyond(0, 3)) {
            refused("read(" + s + ", 0, 999)", x -> x.read(s, 0, 999), BAD);
            refused("sheet(" + s + ", 0, 2)", x -> x.sheet(s, 0, 2), BAD);
            refused("sheet(" + s + ", 0, -1)", x -> x.sheet(s, 0, -1), BAD);
            refused("lose(" + s + ")", x -> x.lose(s), BAD);
            refused("put(" + s + ", 0, 0, 9)", x -> x.put(s, 0, 0, 9), BAD);
            refused("copy(" + s + ", 0, 0, 0, 1)", x -> x.copy(s, 0, 0, 0, 1), BAD);
            refused("copy(0, 0, " + s + ", 0, 1)", x -> x.copy(0, 0, s, 0, 1), BAD);
            refused("write(" + s + ")", x -> x.write(s), BAD);
            refusedGet(s, 0, 0, 0);
        }
        for (int form : beyond(0, 2)) {
            refused("sheet(0, " + form + ", 2)", x -> x.sheet(0, form, 2), BAD);
            refused("sheet(0, " + form + ", -1)", x -> x.sheet(0, form, -1), BAD);
            refused("put(0, " + form + ", 0, 9)", x -> x.put(0, form, 0, 9), BAD);
            refused("put(3, " + form + ", 9, 9)", x -> x.put(3, form, 9, 9), BAD);
            refusedGet(0, form, 0, 0);
            refusedGet(3, form, 0, 0);
        }
        refused("sheet(0, 0, 41)", x -> x.sheet(0, 0, 41), BAD);
        refused("sheet(3, 0, 41)", x -> x.sheet(3, 0, 41), BAD);
    }

    /** Sheet 3 is lost in each state. */
    private static void findingsOfLostSheets() {
        refused("sheet(3, 0, -1)", x -> x.sheet(3, 0, -1), SIZE);
        refused("sheet(0, 2, -1)", x -> x.sheet(0, 2, -1), SIZE);
        refused("sheet(0, 2, the least)", x -> x.sheet(0, 2, LEAST), SIZE);
        refused("lose(3)", x -> x.lose(3), NULL);
        refused("put(3, 0, 0, 9)", x -> x.put(3, 0, 0, 9), NULL);
        refused("put(3, 2, -1, 9)", x -> x.put(3, 2, -1, 9), NULL);
        refusedGet(3, 0, 0, 1);
        refusedGet(3, 1, -1, 1);
        refused("copy(3, 0, 0, 0, 0)", x -> x.copy(3, 0, 0, 0, 0), NULL);
        refused("copy(0, 0, 3, 0, 0)", x -> x.copy(0, 0, 3, 0, 0), NULL);
        refused("copy(3, -1, 1, 9, -1)", x -> x.copy(3, -1, 1, 9, -1), NULL);
        refused("write(3)", x -> x.write(3), NULL);
        refused("gaps(3, 0)", x -> x.gaps(3, 0), NULL);
        refused("gaps(3, 1)", x -> x.gaps(3, 1), NULL);
        if (state.graves > 0) {
            refused("read(3, 0, 999)", x -> x.read(3, 0, 999), NULL);
        }
    }

    private static void findingsOfSheets() {
        refused("put(0, 1, 0, 9)", x -> x.put(0, 1, 0, 9), CAST);
        refused("put(1, 2, 9, 9)", x -> x.put(1, 2, 9, 9), CAST);
        refused("put(0, 0, 3, 9)", x -> x.put(0, 0, 3, 9), INDEX);
        refused("put(0, 0, -1, 9)", x -> x.put(0, 0, -1, 9), INDEX);
        refused("put(2, 2, 0, 9)", x -> x.put(2, 2, 0, 9), INDEX);
        refusedGet(0, 2, 0, 3);
        refusedGet(1, 0, 9, 3);
        refusedGet(0, 0, 3, 2);
        refusedGet(2, 2, 0, 2);
        refused("copy(0, 0, 1, 0, 1)", x -> x.copy(0, 0, 1, 0, 1), STORE);
        refused("copy(1, 0, 0, 9, -1)", x -> x.copy(1, 0, 0, 9, -1), STORE);
        refused("copy(0, 0, 0, 1, 3)", x -> x.copy(0, 0, 0, 1, 3), INDEX);
        refused("copy(1, 2, 1, 0, 4)", x -> x.copy(1, 2, 1, 0, 4), INDEX);
        refused("copy(0, 4, 0, 0, 0)", x -> x.copy(0, 4, 0, 0, 0), INDEX);
        refused("copy(0, 0, 0, 0, -1)", x -> x.copy(0, 0, 0, 0, -1), INDEX);
        refused("gaps(2, 0)", x -> x.gaps(2, 0), state.graves == 0 ? 0 : NOT);
        refused("gaps(1, 1)", x -> x.gaps(1, 1), NOT);
    }

    private static void refusedInSome() {
        refused("tell(7) of a line with a fault", x -> x.tell(7), NOT);
        refused("tell(999) of a line with a fault", x -> x.tell(999), NOT);
        refused("phases(4, NONE)", x -> x.phases(4, NONE), NOT);
        refused("phases(8, 0)", x -> x.phases(8, 0), NOT);
        refused("years(1, 9, 0)", x -> x.years(1, 9, 0), NOT);
        refused("phases(4, 3)", x -> x.phases(4, 3), BAD);
    }

    private static void refusedWithoutGraves() {
        refused("tell(0)", x -> x.tell(0), NOT);
        refused("tell(999)", x -> x.tell(999), NOT);
        refused("phases(1, NONE)", x -> x.phases(1, NONE), NOT);
        refused("years(1, 0, 0)", x -> x.years(1, 0, 0), NOT);
    }

    private static void refusedWhereNoneCanBe() {
        refused("best(0)", x -> x.best(0), NOT);
        refused("best(1)", x -> x.best(1), NOT);
        refused("best(2)", x -> x.best(2), NOT);
        refused("first(0)", x -> x.first(0), NOT);
        refused("first(9)", x -> x.first(9), NOT);
        refused("sure(0, 1)", x -> x.sure(0, 1), NOT);
        refused("places(0)", x -> x.places(0), NOT);
        refused("mean(0)", x -> x.mean(0), LONG_NOT);
        refused("mean(1)", x -> x.mean(1), LONG_NOT);
        refused("leftOut()", x -> x.leftOut(), NOT);
        refused("mended(0)", x -> x.mended(0), NOT);
        refused("phases(1, NONE)", x -> x.phases(1, NONE), NOT);
        refused("phases(4, NONE)", x -> x.phases(4, NONE), NOT);
        refused("phases(2, 0)", x -> x.phases(2, 0), NOT);
        refused("years(0, 0, 0)", x -> x.years(0, 0, 0), NOT);
        refused("years(1, 0, 1)", x -> x.years(1, 0, 1), NOT);
        refused("fresh(3, 0)", x -> x.fresh(3, 0), NOT);
        refused("fresh(3, 1)", x -> x.fresh(3, 1), NOT);
        refused("write(0)", x -> x.write(0), NOT);
        refused("write(2)", x -> x.write(2), NOT);
    }

    private static void refusedWithoutRoom() {
        refused("grave(0, 99)", x -> x.grave(0, 99), FULL);
        refused("over(7, 3)", x -> x.over(7, 3), FULL);
        refused("over(4, 0)", x -> x.over(4, 0), FULL);
        refused("type('5')", x -> x.type('5'), FULL);
        refused("grave(9, 8)", x -> x.grave(9, 8), BAD);
        refused("over(3, 3)", x -> x.over(3, 3), BAD);
        refused("type(300)", x -> x.type(300), BAD);
    }

    /** Neither room nor items: such a call is not refused, but tells nothing; the line of tell() is empty then. */
    private static void toldNothing() {
        asked("read(1, 6, 40) without room", x -> x.read(1, 6, 40));
        asked("read(1, 6, 999) without room", x -> x.read(1, 6, 999));
        asked("read(2, 0, 999) of no items", x -> x.read(2, 0, 999));
    }

    private static void questions() {
        asked("fault()", x -> x.fault());
        asked("digest()", x -> x.digest());
        asked("leftOut()", x -> x.leftOut());
        for (int i = 0; i <= 3; i++) {
            int a = i;
            asked("best(" + a + ")", x -> x.best(a));
            asked("first(" + a + ")", x -> x.first(a));
            asked("spread(" + a + ", 0)", x -> x.spread(a, 0));
            asked("spread(" + a + ", 1)", x -> x.spread(a, 1));
            asked("mean(" + a + ")", x -> x.mean(a));
            asked("mended(" + a + ")", x -> x.mended(a));
            asked("phases(" + (a + 1) + ", NONE)", x -> x.phases(a + 1, NONE));
            asked("phases(2, " + a + ")", x -> x.phases(2, a));
            asked("years(0, " + a + ", 0)", x -> x.years(0, a, 0));
            asked("years(1, " + a + ", 1)", x -> x.years(1, a, 1));
            asked("fresh(" + a + ", 0)", x -> x.fresh(a, 0));
            asked("fresh(" + (1023 - a) + ", 1)", x -> x.fresh(1023 - a, 1));
            asked("has(" + a + ")", x -> x.has(a));
            asked("places(" + a + ")", x -> x.places(a));
            asked("nearest(" + a + ")", x -> x.nearest(a));
            asked("sure(" + a + ", 1)", x -> x.sure(a, 1));
            asked("alike(" + a + ", 1, 0)", x -> x.alike(a, 1, 0));
        }
        for (int i = 0; i <= 8; i++) {
            int what = i;
            asked("count(" + what + ")", x -> x.count(what));
        }
    }

    private static void questionsOfSheets() {
        asked("get(0, 0, 2)", x -> x.get(0, 0, 2));
        asked("get(1, 1, 4)", x -> x.get(1, 1, 4));
        asked("gaps(0, 0)", x -> x.gaps(0, 0));
        asked("gaps(0, 1)", x -> x.gaps(0, 1));
        asked("gaps(1, 0)", x -> x.gaps(1, 0));
        asked("copy(0, 3, 0, 3, 0)", x -> x.copy(0, 3, 0, 3, 0));
        asked("copy(0, 0, 0, 0, 3)", x -> x.copy(0, 0, 0, 0, 3));
    }

    private static void inEachState() {
        says("4, in the state '" + state.name + "'", "They change nothing: BAD");
        badOfGraves();
        badOfLinesAndTimes();
        badOfQuestions();
        badOfSheets();
        says("4, in the state '" + state.name + "'", "They change nothing (FINDINGS but count() 8)");
        findingsOfLostSheets();
        if (state.finding != 0) {
            findingsOfSheets();
        }
        says("in the state '" + state.name + "'", "what only asks changes nothing");
        questions();
        if (state.finding != 0) {
            questionsOfSheets();
        }
    }

    /** Without this, a state could lose what it is there for and no call would show it. */
    private static void stateIsAsMeant() {
        GraveOrder x = new GraveOrder();
        state.build(x);
        boolean full = state instanceof Full;
        boolean none = state instanceof NoneCanBe;
        says("the state '" + state.name + "'", "is as it is meant");
        due("count(0)", x.count(0), state.graves);
        due("count(8)", x.count(8), state.finding);
        due("all 60 tellings", x.count(1) == 60 ? 1 : 0, full ? 1 : 0);
        due("all 16 overs", x.count(4) == 16 ? 1 : 0, full || state instanceof FullOfOvers ? 1 : 0);
        due("all 40 bytes", x.count(5) == 40 ? 1 : 0, full || state instanceof FullOfBytes ? 1 : 0);
        due("no order can be", x.best(0) == NOT ? 1 : 0, none ? 1 : 0);
        boolean good = full || none || state instanceof FullOfBytes;
        due("a line without a fault", x.fault() == NONE ? 1 : 0, good ? 1 : 0);
    }


    // ---- asked again after each change

    /** Each changes what the answers of orders stand on; the years make 1 stand ahead of 0. */
    private static final Call[] CHANGES = {
        x -> x.grave(20, 90), x -> x.grave(0, 25), x -> told(x, "0:0,1;1:2", 1), x -> x.grave(10, 50),
        x -> told(x, "2:0,1,2", 2), x -> x.weight(0, 3), x -> x.over(0, 1), x -> x.robbed(2, 1),
        x -> x.grave(5, 95), x -> told(x, "3:2;1:1", 3), x -> x.robbed(2, 0), x -> x.over(2, 3),
        x -> x.asOf(2), x -> x.sheet(0, 0, 4), x -> x.read(0, 0, 3), x -> x.asOf(3), x -> x.put(0, 0, 1, 1),
        x -> x.read(0, 2, 4), x -> x.asOf(4), x -> x.weight(1, 0), x -> x.over(3, 0), x -> x.weight(2, 2),
        x -> told(x, "0:2,1;3:0", 999), x -> x.asOf(999), x -> x.weight(1, 1), x -> x.over(1, 2), x -> x.robbed(1, 1)};

    private static List<Long> answers(GraveOrder x) {
        List<Long> seen = new ArrayList<>();
        seen.add(x.digest());
        seen.add((long) x.spread(1, 0));
        seen.add((long) x.spread(6, 1));
        seen.add((long) x.sure(1, 0));
        seen.add((long) x.fresh(3, 0));
        seen.add((long) x.phases(2, 1));
        seen.add((long) x.years(1, 0, 1));
        return seen;
    }

    private static void askedAfterEachChange() {
        says("2", "BEST, FIRST and all that follows are those of what is told by then");
        GraveOrder often = new GraveOrder();
        due("answers before all changes", answers(often).equals(answers(new GraveOrder())) ? 1 : 0, 1);
        for (int n = 1; n <= CHANGES.length; n++) {
            GraveOrder once = new GraveOrder();
            for (int i = 0; i < n; i++) {
                long due = CHANGES[i].on(once);
                if (i == n - 1) {
                    due("the answer of change " + n, CHANGES[i].on(often), due);
                }
            }
            due("answers after change " + n, answers(often).equals(answers(once)) ? 1 : 0, 1);
        }
        robbedBeforeAndAfter();
        manyGapsAndThenNone();
        leftOutBeforeAndAfter();
    }

    private static void robbedBeforeAndAfter() {
        GraveOrder x = row(3, "0:0;2:0");
        due("best(0)", x.best(0), 1);
        x.robbed(1, 1);
        due("best(0), the gap robbed", x.best(0), 0);
        x.robbed(1, 0);
        due("best(0), robbed no more", x.best(0), 1);
    }

    private static void manyGapsAndThenNone() {
        GraveOrder x = row(8, "0:0,1,2,3,4,5,6,7,8,9", "7:0,1,2,3,4,5,6,7,8,9");
        for (int kind = 0; kind < 10; kind++) {
            x.weight(kind, 3);
        }
        due("spread(180, 0)", x.spread(180, 0), 1);
        x.weight(0, 2);
        due("spread(180, 0), one of less weight", x.spread(180, 0), 0);
        due("spread(174, 0), one of less weight", x.spread(174, 0), 1);
    }

    /** At first grave 0 can be the first one, and then no longer. */
    private static void leftOutBeforeAndAfter() {
        GraveOrder x = graves(3, "0:5;1:5");
        due("leftOut()", x.leftOut(), 0);
        x.over(0, 2);
        x.over(2, 1);
        due("leftOut(), 1 2 0 alone can be", x.leftOut(), 32);
    }

    public static void main(String[] args) {
        for (State next : STATES) {
            state = next;
            twin = untouched(state);
            stateIsAsMeant();
            inEachState();
            says("4, in the state '" + state.name + "'", "They change nothing: NOT, FULL");
            state.refusals();
        }
        askedAfterEachChange();
        end();
    }
}
