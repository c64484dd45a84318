import java.util.ArrayList;
import java.util.Arrays;
import java.util.List;
import java.util.Random;

/**
 * Random runs of calls, each answer held against a slow model that looks at every order one by one
 * and follows the document's words as plainly as it can.
 */
public final class ModelTest {
    private static final int NONE = -1, BAD = -2, NOT = -3, FULL = -4;
    private static int wrong = 0;

    /** What the document says, without any thought of speed. */
    private static final class Model {
        final List<int[]> graves = new ArrayList<>();
        final List<int[]> overs = new ArrayList<>();
        final List<int[]> tellings = new ArrayList<>();
        final int[] weights = new int[10];
        final int[][] sheets = new int[4][];
        final int[] forms = new int[4];
        String line = "";
        int asOf = 999;
        int lastTime = 0;
        int finding = 0;
        List<int[]> can = null;
        List<int[]> best = null;

        Model() {
            Arrays.fill(weights, 1);
        }

        int n() {
            return graves.size();
        }

        boolean isGrave(int g) {
            return g >= 0 && g < n();
        }

        boolean hasKind(int g, int k) {
            boolean has = false;
            for (int[] t : tellings) {
                if (t[0] <= asOf && t[1] == g && t[2] == k) {
                    has = t[3] == 1;
                }
            }
            return has;
        }

        int kindsOf(int g) {
            int bits = 0;
            for (int k = 0; k < 10; k++) {
                bits |= hasKind(g, k) ? 1 << k : 0;
            }
            return bits;
        }

        void changed() {
            can = null;
            best = null;
        }

        int found(int number) {
            finding = number;
            return -10 - number;
        }

        int grave(int from, int to) {
            if (from < 0 || from > 99 || to < from || to > 99) {
                return BAD;
            }
            if (n() == 8) {
                return FULL;
            }
            graves.add(new int[] {from, to, 0});
            changed();
            return n() - 1;
        }

        int robbed(int g, int v) {
            if (!isGrave(g) || v < 0 || v > 1) {
                return BAD;
            }
            int was = graves.get(g)[2];
            graves.get(g)[2] = v;
            changed();
            return was;
        }

        int weight(int k, int v) {
            if (k < 0 || k > 9 || v < 0 || v > 3) {
                return BAD;
            }
            int was = weights[k];
            weights[k] = v;
            changed();
            return was;
        }

        int over(int a, int b) {
            if (!isGrave(a) || !isGrave(b) || a == b) {
                return BAD;
            }
            if (overs.size() == 16) {
                return FULL;
            }
            overs.add(new int[] {a, b});
            changed();
            return overs.size();
        }

        int type(int b) {
            if (b < 0 || b > 255) {
                return BAD;
            }
            if (line.length() == 40) {
                return FULL;
            }
            line += (char) b;
            return line.length();
        }

        int wipe() {
            int had = line.length();
            line = "";
            return had;
        }

        /** Whether a line could still become a good one: tried by putting ends to it. */
        boolean canGoOn(String start) {
            String graveFigures = n() == 0 ? "(?!)" : "[0-" + (n() - 1) + "]";
            String part = graveFigures + ":-?[0-9](,-?[0-9])*";
            String whole = part + "(;" + part + ")*";
            for (String end : new String[] {"", "0", ":0", "0:0"}) {
                if ((start + end).matches(whole)) {
                    return true;
                }
            }
            return false;
        }

        int fault() {
            for (int i = 0; i < line.length(); i++) {
                if (!canGoOn(line.substring(0, i + 1))) {
                    return i;
                }
            }
            return line.matches("[0-9]:-?[0-9](,-?[0-9])*(;[0-9]:-?[0-9](,-?[0-9])*)*") ? NONE : line.length();
        }

        int tell(int time) {
            if (time < lastTime || time > 999) {
                return BAD;
            }
            if (fault() != NONE) {
                return NOT;
            }
            int told = 0;
            for (String part : line.split(";")) {
                for (String kind : part.substring(2).split(",")) {
                    int there = kind.startsWith("-") ? 0 : 1;
                    int k = kind.charAt(kind.length() - 1) - '0';
                    if (tellings.size() < 60) {
                        tellings.add(new int[] {time, part.charAt(0) - '0', k, there});
                        told++;
                    }
                }
            }
            line = "";
            lastTime = told > 0 ? time : lastTime;
            changed();
            return told;
        }

        int read(int s, int g, int time) {
            if (s < 0 || s > 3 || !isGrave(g) || time < lastTime || time > 999) {
                return BAD;
            }
            if (sheets[s] == null) {
                return found(1);
            }
            int told = 0;
            while (told < 10 && told < sheets[s].length && tellings.size() < 60
                && (sheets[s][told] == 0 || sheets[s][told] == 1)) {
                tellings.add(new int[] {time, g, told, sheets[s][told]});
                told++;
            }
            lastTime = told > 0 ? time : lastTime;
            changed();
            return told;
        }

        int asOf(int time) {
            if (time < 0 || time > 999) {
                return BAD;
            }
            int was = asOf;
            asOf = time;
            changed();
            return was;
        }

        int has(int g) {
            return isGrave(g) ? kindsOf(g) : BAD;
        }

        /** Gaps of one kind in a row of kinds as bits, without its weight. */
        static int gapsOfKind(int[] laid, boolean[] robbed, int k) {
            int first = -1;
            int last = -1;
            for (int i = 0; i < laid.length; i++) {
                if ((laid[i] >> k & 1) == 1) {
                    first = first < 0 ? i : first;
                    last = i;
                }
            }
            int gaps = 0;
            for (int i = first + 1; i < last; i++) {
                gaps += (laid[i] >> k & 1) == 0 && !robbed[i] ? 1 : 0;
            }
            return gaps;
        }

        int gapsOfLaid(int[] laid, boolean[] robbed) {
            int gaps = 0;
            for (int k = 0; k < 10; k++) {
                gaps += weights[k] * gapsOfKind(laid, robbed, k);
            }
            return gaps;
        }

        int[] kindsRow(int[] order) {
            int[] all = new int[n()];
            for (int g = 0; g < n(); g++) {
                all[g] = kindsOf(g);
            }
            int[] laid = new int[order.length];
            for (int i = 0; i < order.length; i++) {
                laid[i] = all[order[i]];
            }
            return laid;
        }

        boolean[] robbedRow(int[] order) {
            boolean[] robbed = new boolean[order.length];
            for (int i = 0; i < order.length; i++) {
                robbed[i] = graves.get(order[i])[2] == 1;
            }
            return robbed;
        }

        /** Years never fall just if no grave begins behind the end of a later one. */
        boolean canBe(int[] order) {
            for (int i = 0; i < order.length; i++) {
                for (int j = i + 1; j < order.length; j++) {
                    if (graves.get(order[i])[0] > graves.get(order[j])[1]) {
                        return false;
                    }
                    for (int[] o : overs) {
                        if (o[0] == order[i] && o[1] == order[j]) {
                            return false;
                        }
                    }
                }
            }
            return true;
        }

        void allOrders(int[] order, int size, List<int[]> into) {
            if (size == order.length) {
                if (canBe(order)) {
                    into.add(order.clone());
                }
                return;
            }
            for (int g = 0; g < order.length; g++) {
                boolean used = false;
                for (int i = 0; i < size; i++) {
                    used |= order[i] == g;
                }
                if (!used) {
                    order[size] = g;
                    allOrders(order, size + 1, into);
                }
            }
        }

        int[] allKinds = new int[0];
        int[] gapsOfCan = new int[0];
        int[] gappedOfCan = new int[0];

        void settle() {
            if (can != null) {
                return;
            }
            can = new ArrayList<>();
            allOrders(new int[n()], 0, can);
            best = new ArrayList<>();
            allKinds = new int[n()];
            for (int g = 0; g < n(); g++) {
                allKinds[g] = kindsOf(g);
            }
            gapsOfCan = new int[can.size()];
            gappedOfCan = new int[can.size()];
            int fewest = Integer.MAX_VALUE;
            for (int i = 0; i < can.size(); i++) {
                int[] laid = new int[n()];
                for (int p = 0; p < n(); p++) {
                    laid[p] = allKinds[can.get(i)[p]];
                }
                boolean[] robbed = robbedRow(can.get(i));
                for (int k = 0; k < 10; k++) {
                    int gaps = weights[k] * gapsOfKind(laid, robbed, k);
                    gapsOfCan[i] += gaps;
                    gappedOfCan[i] |= gaps > 0 ? 1 << k : 0;
                }
                fewest = Math.min(fewest, gapsOfCan[i]);
            }
            for (int i = 0; i < can.size(); i++) {
                if (gapsOfCan[i] == fewest) {
                    best.add(can.get(i));
                }
            }
        }

        boolean none() {
            settle();
            return can.isEmpty();
        }

        int gaps(int s, int what) {
            if (s < 0 || s > 3 || what < 0 || what > 1) {
                return BAD;
            }
            if (sheets[s] == null) {
                return found(1);
            }
            int[] sorted = sheets[s].clone();
            Arrays.sort(sorted);
            if (sorted.length != n()) {
                return NOT;
            }
            for (int i = 0; i < sorted.length; i++) {
                if (sorted[i] != i) {
                    return NOT;
                }
            }
            if (what == 1) {
                return canBe(sheets[s]) ? 1 : 0;
            }
            return gapsOfLaid(kindsRow(sheets[s]), robbedRow(sheets[s]));
        }

        int best(int what) {
            if (what < 0 || what > 2) {
                return BAD;
            }
            if (none()) {
                return NOT;
            }
            if (what == 0) {
                return gapsOfLaid(kindsRow(best.get(0)), robbedRow(best.get(0)));
            }
            if (what == 1) {
                return best.size();
            }
            int[] turned = new int[n()];
            for (int i = 0; i < n(); i++) {
                turned[i] = theFirst()[n() - 1 - i];
            }
            for (int[] b : best) {
                if (Arrays.equals(b, turned)) {
                    return 1;
                }
            }
            return 0;
        }

        int[] theFirst() {
            int[] least = best.get(0);
            for (int[] b : best) {
                least = Arrays.compare(b, least) < 0 ? b : least;
            }
            return least;
        }

        int first(int place) {
            if (place < 0) {
                return BAD;
            }
            if (none()) {
                return NOT;
            }
            return place < n() ? theFirst()[place] : NONE;
        }

        static int placeOf(int[] order, int g) {
            for (int i = 0; i < order.length; i++) {
                if (order[i] == g) {
                    return i;
                }
            }
            return -1;
        }

        int sure(int a, int b) {
            if (!isGrave(a) || !isGrave(b) || a == b) {
                return BAD;
            }
            if (none()) {
                return NOT;
            }
            for (int[] o : best) {
                if (placeOf(o, a) > placeOf(o, b)) {
                    return 0;
                }
            }
            return 1;
        }

        int places(int g) {
            if (!isGrave(g)) {
                return BAD;
            }
            if (none()) {
                return NOT;
            }
            int bits = 0;
            for (int[] o : best) {
                bits |= 1 << placeOf(o, g);
            }
            return bits;
        }

        int spread(int gaps, int what) {
            if (gaps < 0 || gaps > 999 || what < 0 || what > 1) {
                return BAD;
            }
            settle();
            int count = 0;
            for (int g : gapsOfCan) {
                count += g == gaps || (what == 1 && g < gaps) ? 1 : 0;
            }
            return count;
        }

        static long part(long above, long below, int what) {
            for (long d = Math.max(above, below); d > 1; d--) {
                if (above % d == 0 && below % d == 0) {
                    return (what == 0 ? above : below) / d;
                }
            }
            return what == 0 ? above : below;
        }

        long mean(int what) {
            if (what < 0 || what > 1) {
                return Long.MIN_VALUE + 2;
            }
            if (none()) {
                return Long.MIN_VALUE + 3;
            }
            long all = 0;
            for (int g : gapsOfCan) {
                all += g;
            }
            return part(all, can.size(), what);
        }

        int leftOut() {
            if (none()) {
                return NOT;
            }
            int least = 1023;
            for (int m : gappedOfCan) {
                int more = Integer.compare(Integer.bitCount(m), Integer.bitCount(least));
                least = more < 0 || (more == 0 && m < least) ? m : least;
            }
            return least;
        }

        /** Every way to have the kind: each find away and each one more costs one. */
        int mended(int k) {
            if (k < 0 || k > 9) {
                return BAD;
            }
            if (none()) {
                return NOT;
            }
            int[] order = theFirst();
            boolean[] robbed = robbedRow(order);
            int was = 0;
            for (int i = 0; i < n(); i++) {
                was |= hasKind(order[i], k) ? 1 << i : 0;
            }
            int fewest = 99;
            for (int then = 0; then < 1 << n(); then++) {
                int[] laid = new int[n()];
                for (int i = 0; i < n(); i++) {
                    laid[i] = (then >> i & 1) << k;
                }
                if (gapsOfKind(laid, robbed, k) == 0) {
                    fewest = Math.min(fewest, Integer.bitCount(then ^ was));
                }
            }
            return fewest;
        }

        int straddles(int[] order, int[] sizes) {
            int all = 0;
            for (int k = 0; k < 10; k++) {
                int parts = 0;
                int at = 0;
                for (int size : sizes) {
                    boolean there = false;
                    for (int i = at; i < at + size; i++) {
                        there |= hasKind(order[i], k);
                    }
                    parts += there ? 1 : 0;
                    at += size;
                }
                all += parts > 1 ? (parts - 1) * weights[k] : 0;
            }
            return all;
        }

        void allSizes(int[] sizes, int at, int left, List<int[]> into) {
            if (at == sizes.length - 1) {
                if (left > 0) {
                    sizes[at] = left;
                    into.add(sizes.clone());
                }
                return;
            }
            for (int size = 1; size < left; size++) {
                sizes[at] = size;
                allSizes(sizes, at + 1, left - size, into);
            }
        }

        int phases(int parts, int g) {
            if (parts < 1 || parts > 8 || (g != NONE && !isGrave(g))) {
                return BAD;
            }
            if (none() || parts > n()) {
                return NOT;
            }
            List<int[]> cuts = new ArrayList<>();
            allSizes(new int[parts], 0, n(), cuts);
            int[] least = null;
            int fewest = Integer.MAX_VALUE;
            for (int[] c : cuts) {
                int straddles = straddles(theFirst(), c);
                if (straddles < fewest || (straddles == fewest && Arrays.compare(c, least) < 0)) {
                    least = c;
                    fewest = straddles;
                }
            }
            if (g == NONE) {
                return fewest;
            }
            int place = placeOf(theFirst(), g);
            int part = 0;
            for (int end = least[0]; end <= place; end += least[part]) {
                part++;
            }
            return part;
        }

        int yearOf(int g, int end) {
            int[] own = graves.get(g);
            int found = -1;
            for (int y = own[0]; y <= own[1]; y++) {
                int[] was = own.clone();
                own[0] = y;
                own[1] = y;
                boolean fits = true;
                int[] order = theFirst();
                for (int i = 0; i < n(); i++) {
                    for (int j = i + 1; j < n(); j++) {
                        fits &= graves.get(order[i])[0] <= graves.get(order[j])[1];
                    }
                }
                own[0] = was[0];
                own[1] = was[1];
                if (fits && (end == 1 || found < 0)) {
                    found = y;
                }
            }
            return found;
        }

        int years(int of, int k, int end) {
            if (of < 0 || of > 1 || end < 0 || end > 1 || (of == 0 && !isGrave(k)) || k < 0 || k > 9) {
                return BAD;
            }
            if (none()) {
                return NOT;
            }
            if (of == 0) {
                return yearOf(k, end);
            }
            int found = NOT;
            for (int g = 0; g < n(); g++) {
                if (hasKind(g, k)) {
                    int y = yearOf(g, end);
                    found = found == NOT ? y : end == 0 ? Math.min(found, y) : Math.max(found, y);
                }
            }
            return found;
        }

        int fresh(int kinds, int what) {
            if (kinds < 0 || kinds > 1023 || what < 0 || what > 1) {
                return BAD;
            }
            if (none()) {
                return NOT;
            }
            int fewest = Integer.MAX_VALUE;
            int bits = 0;
            for (int place = 0; place <= n(); place++) {
                int[] laid = new int[n() + 1];
                boolean[] robbed = new boolean[n() + 1];
                int at = 0;
                for (int i = 0; i <= n(); i++) {
                    if (i == place) {
                        laid[i] = kinds;
                    } else {
                        laid[i] = kindsRow(theFirst())[at];
                        robbed[i] = robbedRow(theFirst())[at];
                        at++;
                    }
                }
                int gaps = gapsOfLaid(laid, robbed);
                bits = gaps < fewest ? 1 << place : gaps == fewest ? bits | 1 << place : bits;
                fewest = Math.min(fewest, gaps);
            }
            return what == 0 ? bits : fewest;
        }

        int weightOf(int a, int b, boolean both) {
            int all = 0;
            for (int k = 0; k < 10; k++) {
                boolean counts = both ? hasKind(a, k) && hasKind(b, k) : hasKind(a, k) || hasKind(b, k);
                all += counts ? weights[k] : 0;
            }
            return all;
        }

        long alike(int a, int b, int what) {
            if (!isGrave(a) || !isGrave(b) || a == b || what < 0 || what > 1) {
                return Long.MIN_VALUE + 2;
            }
            if (weightOf(a, b, false) == 0) {
                return Long.MIN_VALUE + 3;
            }
            return part(weightOf(a, b, true), weightOf(a, b, false), what);
        }

        int nearest(int g) {
            if (!isGrave(g)) {
                return BAD;
            }
            int found = NONE;
            double most = -1;
            for (int o = 0; o < n(); o++) {
                if (o != g && weightOf(g, o, false) > 0) {
                    double alike = (double) weightOf(g, o, true) / weightOf(g, o, false);
                    if (alike > most) {
                        found = o;
                        most = alike;
                    }
                }
            }
            return found;
        }

        int sheet(int s, int form, int size) {
            if (s < 0 || s > 3 || form < 0 || form > 2 || size > 40) {
                return BAD;
            }
            if (size < 0) {
                return found(5);
            }
            sheets[s] = new int[size];
            forms[s] = form;
            return size;
        }

        int lose(int s) {
            if (s < 0 || s > 3) {
                return BAD;
            }
            if (sheets[s] == null) {
                return found(1);
            }
            int had = sheets[s].length;
            sheets[s] = null;
            return had;
        }

        int look(int s, int form, int i) {
            if (s < 0 || s > 3 || form < 0 || form > 2) {
                return BAD;
            }
            if (sheets[s] == null) {
                return found(1);
            }
            if (forms[s] != form) {
                return found(3);
            }
            return i < 0 || i >= sheets[s].length ? found(2) : 1;
        }

        int put(int s, int form, int i, int v) {
            int answer = look(s, form, i);
            if (answer == 1) {
                sheets[s][i] = form == 0 ? (byte) v : form == 1 ? (short) v : v;
            }
            return answer;
        }

        int get(int s, int form, int i) {
            return look(s, form, i) == 1 ? sheets[s][i] : Integer.MIN_VALUE;
        }

        int copy(int s, int i, int t, int j, int size) {
            if (s < 0 || s > 3 || t < 0 || t > 3) {
                return BAD;
            }
            if (sheets[s] == null || sheets[t] == null) {
                return found(1);
            }
            if (forms[s] != forms[t]) {
                return found(4);
            }
            if (i < 0 || j < 0 || size < 0 || (long) i + size > sheets[s].length
                || (long) j + size > sheets[t].length) {
                return found(2);
            }
            int[] were = sheets[s].clone();
            for (int x = 0; x < size; x++) {
                sheets[t][j + x] = were[i + x];
            }
            return 1;
        }

        int write(int s) {
            if (s < 0 || s > 3) {
                return BAD;
            }
            if (sheets[s] == null) {
                return found(1);
            }
            if (none()) {
                return NOT;
            }
            int size = Math.min(sheets[s].length, n());
            for (int i = 0; i < size; i++) {
                sheets[s][i] = theFirst()[i];
            }
            return size;
        }

        int count(int what) {
            int bits = 0;
            int all = 0;
            int robbed = 0;
            for (int g = 0; g < n(); g++) {
                bits |= kindsOf(g);
                all += Integer.bitCount(kindsOf(g));
                robbed |= graves.get(g)[2] << g;
            }
            int[] counts = {n(), tellings.size(), bits, all, overs.size(), line.length(), asOf, robbed, finding};
            return what < 0 || what > 8 ? BAD : counts[what];
        }

        long digest() {
            List<Long> all = new ArrayList<>();
            for (int what = 0; what <= 7; what++) {
                all.add((long) count(what));
            }
            all.add((long) fault());
            for (int g = 0; g < n(); g++) {
                all.add((long) has(g));
                all.add((long) first(g));
                all.add((long) places(g));
                all.add((long) years(0, g, 0));
                all.add((long) years(0, g, 1));
                all.add((long) nearest(g));
            }
            all.add((long) best(0));
            all.add((long) best(1));
            all.add((long) best(2));
            all.add((long) spread(0, 1));
            all.add(mean(0));
            all.add(mean(1));
            all.add((long) leftOut());
            all.add((long) phases(2, NONE));
            for (int k = 0; k < 10; k++) {
                all.add((long) mended(k));
            }
            long h = 17;
            for (long a : all) {
                h = 31 * h + a;
            }
            return h;
        }
    }

    private static final String[] NAMES = {"grave", "robbed", "weight", "over", "type", "wipe", "fault", "tell",
        "read", "asOf", "has", "gaps", "best", "first", "sure", "places", "spread", "mean", "leftOut", "mended",
        "phases", "years", "fresh", "alike", "nearest", "sheet", "lose", "put", "get", "copy", "write", "count",
        "digest"};

    private static long ofClass(GraveOrder x, int call, int[] a) {
        switch (NAMES[call]) {
            case "grave": return x.grave(a[0], a[1]);
            case "robbed": return x.robbed(a[0], a[1]);
            case "weight": return x.weight(a[0], a[1]);
            case "over": return x.over(a[0], a[1]);
            case "type": return x.type(a[0]);
            case "wipe": return x.wipe();
            case "fault": return x.fault();
            case "tell": return x.tell(a[0]);
            case "read": return x.read(a[0], a[1], a[2]);
            case "asOf": return x.asOf(a[0]);
            case "has": return x.has(a[0]);
            case "gaps": return x.gaps(a[0], a[1]);
            case "best": return x.best(a[0]);
            case "first": return x.first(a[0]);
            case "sure": return x.sure(a[0], a[1]);
            case "places": return x.places(a[0]);
            case "spread": return x.spread(a[0], a[1]);
            case "mean": return x.mean(a[0]);
            case "leftOut": return x.leftOut();
            case "mended": return x.mended(a[0]);
            case "phases": return x.phases(a[0], a[1]);
            case "years": return x.years(a[0], a[1], a[2]);
            case "fresh": return x.fresh(a[0], a[1]);
            case "alike": return x.alike(a[0], a[1], a[2]);
            case "nearest": return x.nearest(a[0]);
            case "sheet": return x.sheet(a[0], a[1], a[2]);
            case "lose": return x.lose(a[0]);
            case "put": return x.put(a[0], a[1], a[2], a[3]);
            case "get": return x.get(a[0], a[1], a[2]);
            case "copy": return x.copy(a[0], a[1], a[2], a[3], a[4]);
            case "write": return x.write(a[0]);
            case "count": return x.count(a[0]);
            default: return x.digest();
        }
    }

    private static long ofModel(Model x, int call, int[] a) {
        switch (NAMES[call]) {
            case "grave": return x.grave(a[0], a[1]);
            case "robbed": return x.robbed(a[0], a[1]);
            case "weight": return x.weight(a[0], a[1]);
            case "over": return x.over(a[0], a[1]);
            case "type": return x.type(a[0]);
            case "wipe": return x.wipe();
            case "fault": return x.fault();
            case "tell": return x.tell(a[0]);
            case "read": return x.read(a[0], a[1], a[2]);
            case "asOf": return x.asOf(a[0]);
            case "has": return x.has(a[0]);
            case "gaps": return x.gaps(a[0], a[1]);
            case "best": return x.best(a[0]);
            case "first": return x.first(a[0]);
            case "sure": return x.sure(a[0], a[1]);
            case "places": return x.places(a[0]);
            case "spread": return x.spread(a[0], a[1]);
            case "mean": return x.mean(a[0]);
            case "leftOut": return x.leftOut();
            case "mended": return x.mended(a[0]);
            case "phases": return x.phases(a[0], a[1]);
            case "years": return x.years(a[0], a[1], a[2]);
            case "fresh": return x.fresh(a[0], a[1]);
            case "alike": return x.alike(a[0], a[1], a[2]);
            case "nearest": return x.nearest(a[0]);
            case "sheet": return x.sheet(a[0], a[1], a[2]);
            case "lose": return x.lose(a[0]);
            case "put": return x.put(a[0], a[1], a[2], a[3]);
            case "get": return x.get(a[0], a[1], a[2]);
            case "copy": return x.copy(a[0], a[1], a[2], a[3], a[4]);
            case "write": return x.write(a[0]);
            case "count": return x.count(a[0]);
            default: return x.digest();
        }
    }

    /** One run; the class and the model get the same calls. */
    private static final class Run {
        final GraveOrder real = new GraveOrder();
        final Model model = new Model();
        final Random random;
        final int number;
        int calls = 0;
        int clock = 0;

        Run(int number) {
            this.number = number;
            this.random = new Random(number);
        }

        int below(int bound) {
            return random.nextInt(bound);
        }

        void ask(String name, int... a) {
            if (calls >= 512) {
                return;
            }
            calls++;
            int call = Arrays.asList(NAMES).indexOf(name);
            int[] five = Arrays.copyOf(a, 5);
            long due = ofModel(model, call, five);
            long got = ofClass(real, call, five);
            if (got != due) {
                wrong++;
                System.out.println("run " + number + ", call " + calls + ": " + name + Arrays.toString(a)
                    + " answered " + got + ", due is " + due);
            }
        }

        /** Mostly a good number below a bound, at times one beside it or far off. */
        int near(int bound) {
            int dice = below(40);
            if (dice == 0) {
                return -1;
            }
            if (dice == 1) {
                return bound;
            }
            if (dice == 2) {
                return below(2) == 0 ? Integer.MIN_VALUE : Integer.MAX_VALUE;
            }
            return below(Math.max(1, bound));
        }

        void text(String line) {
            for (int i = 0; i < line.length(); i++) {
                ask("type", line.charAt(i));
            }
        }

        String randomLine() {
            StringBuilder line = new StringBuilder();
            int parts = 1 + below(3);
            for (int p = 0; p < parts; p++) {
                line.append(p > 0 ? ";" : "").append(below(Math.max(1, model.n()))).append(':');
                int kinds = 1 + below(4);
                for (int k = 0; k < kinds; k++) {
                    line.append(k > 0 ? "," : "").append(below(5) == 0 ? "-" : "").append(below(10));
                }
            }
            if (below(8) == 0) {
                line.insert(below(line.length() + 1), ";:,-0a9\n".charAt(below(8)));
            }
            return line.toString();
        }

        void dig(int most) {
            boolean wide = below(2) == 0;
            for (int g = 0; g < most; g++) {
                if (below(10) == 0) {
                    int end = 98 * below(2);
                    ask("grave", end, end + below(2));
                    continue;
                }
                int from = wide ? below(20) : below(60);
                ask("grave", from, wide ? 60 + below(40) : from + below(40));
            }
        }

        void shape() {
            switch (below(8)) {
                case 0: ask("grave", near(100), near(100)); break;
                case 1: ask("robbed", near(model.n()), near(2)); break;
                case 2: ask("weight", near(10), near(4)); break;
                case 3: if (below(3) == 0) ask("over", near(model.n()), near(model.n())); break;
                case 4: ask("asOf", below(3) == 0 ? near(1000) : clock); break;
                case 5: case 6: tellSome(); break;
                default: readSome(); break;
            }
        }

        void tellSome() {
            text(randomLine());
            ask("fault");
            clock += below(3);
            ask("tell", below(15) == 0 ? near(1000) : timeToTell());
            clock = Math.max(clock, Math.min(999, model.lastTime));
            if (below(3) == 0) {
                ask("wipe");
            }
        }

        void readSome() {
            int s = below(4);
            ask("sheet", s, below(3), below(13));
            for (int i = 0; i < 10; i++) {
                ask("put", s, model.forms[s], i, below(12) == 0 ? near(300) : below(2));
            }
            clock += below(3);
            ask("read", s, near(model.n()), timeToTell());
        }

        /** At times just beside the last telling, where what was told for nothing would show. */
        int timeToTell() {
            return below(3) == 0 ? model.lastTime - 1 + below(3) : clock;
        }

        void sheetCall() {
            int s = near(4);
            switch (below(8)) {
                case 0: ask("sheet", s, near(3), near(41)); break;
                case 1: ask("lose", s); break;
                case 2: ask("put", s, near(3), near(12), below(3) == 0 ? random.nextInt() : near(9)); break;
                case 3: ask("get", s, near(3), near(12)); break;
                case 4: ask("copy", s, near(8), near(4), near(8), near(8)); break;
                case 5: ask("write", s); break;
                case 6: ask("sheet", 0, below(3), model.n()); ask("write", 0); ask("gaps", 0, 0); break;
                default: toldOrder(); break;
            }
            ask("count", 8);
        }

        void toldOrder() {
            int s = below(4);
            int n = model.n();
            ask("sheet", s, below(3), n + (below(8) == 0 ? 1 : 0));
            List<Integer> order = new ArrayList<>();
            for (int g = 0; g < n; g++) {
                order.add(below(order.size() + 1), g);
            }
            for (int i = 0; i < n; i++) {
                ask("put", s, model.forms[s], i, below(30) == 0 ? near(9) : order.get(i));
            }
            ask("gaps", s, near(2));
            ask("gaps", s, 0);
            ask("gaps", s, 1);
        }

        void question() {
            int n = model.n();
            switch (below(18)) {
                case 0: ask("has", near(n)); break;
                case 1: ask("gaps", near(4), near(2)); break;
                case 2: ask("best", near(3)); break;
                case 3: ask("first", near(9)); break;
                case 4: ask("sure", near(n), near(n)); break;
                case 5: ask("places", near(n)); break;
                case 6: ask("spread", below(4) == 0 ? near(1000) : near(30), near(2)); break;
                case 7: ask("mean", near(2)); break;
                case 8: ask("leftOut"); break;
                case 9: ask("mended", near(10)); break;
                case 10: ask("phases", 1 + near(8), below(3) == 0 ? NONE : near(n)); break;
                case 11: ask("years", near(2), near(10), near(2)); break;
                case 12: ask("fresh", near(1024), near(2)); break;
                case 13: ask("alike", near(n), near(n), near(2)); break;
                case 14: ask("nearest", near(n)); break;
                case 15: ask("count", near(9)); break;
                case 16: ask("digest"); break;
                default: sheetCall(); break;
            }
        }

        void go(int most, int rounds) {
            ask("digest");
            dig(most);
            for (int i = 0; i < most; i++) {
                tellSome();
            }
            for (int round = 0; round < rounds; round++) {
                shape();
                for (int q = 0; q < 12; q++) {
                    question();
                }
                ask("digest");
            }
        }
    }

    public static void main(String[] args) {
        for (int run = 0; run < 400; run++) {
            new Run(run).go(run % 7, 30);
        }
        for (int run = 1000; run < 1012; run++) {
            new Run(run).go(7 + run % 2, 8);
        }
        System.out.println(wrong == 0 ? "the class answers as the model" : wrong + " answers are not the model's");
        if (wrong != 0) {
            System.exit(1);
        }
    }
}
