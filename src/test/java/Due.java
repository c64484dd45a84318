/** What the tests share: answers held against those that are due, and objects built for a purpose. */
abstract class Due {
    static final int NONE = -1, BAD = -2, NOT = -3, FULL = -4;
    static final int NULL = -11, INDEX = -12, CAST = -13, STORE = -14, SIZE = -15;
    static final int LEAST = Integer.MIN_VALUE, MOST = Integer.MAX_VALUE;
    static final long LONG_BAD = Long.MIN_VALUE + 2, LONG_NOT = Long.MIN_VALUE + 3;

    private static String sentence = "";
    private static int sentences = 0;
    private static int wrong = 0;

    /** The words of the document that the calls from here on hold. */
    static void says(String where, String words) {
        sentence = where + ", '" + words + "'";
        sentences++;
    }

    static void due(String call, long got, long want) {
        if (got != want) {
            wrong++;
            System.out.println(sentence + ": " + call + " answered " + got + ", due is " + want);
        }
    }

    static void end() {
        System.out.println(sentences + " sentences, " + wrong + " answers that are not due");
        if (wrong != 0) {
            System.exit(1);
        }
    }

    /** Numbers that are never taken where least to most are. */
    static int[] beyond(int least, int most) {
        return new int[] {least - 1, most + 1, LEAST, MOST};
    }

    static GraveOrder graves(int n) {
        GraveOrder x = new GraveOrder();
        for (int g = 0; g < n; g++) {
            x.grave(0, 99);
        }
        return x;
    }

    static void type(GraveOrder x, String line) {
        for (int i = 0; i < line.length(); i++) {
            x.type(line.charAt(i));
        }
    }

    static int told(GraveOrder x, String line, int time) {
        type(x, line);
        return x.tell(time);
    }

    static GraveOrder graves(int n, String... lines) {
        GraveOrder x = graves(n);
        for (String line : lines) {
            told(x, line, 0);
        }
        return x;
    }

    /** Graves that can stand in one order alone: 0, 1, 2 and so on. */
    static GraveOrder row(int n, String... lines) {
        GraveOrder x = graves(n, lines);
        for (int g = 1; g < n; g++) {
            x.over(g, g - 1);
        }
        return x;
    }

    /** Graves of which two lie over one another, so no order can be. */
    static GraveOrder noOrder() {
        GraveOrder x = graves(2, "0:0,1;1:0");
        x.over(0, 1);
        x.over(1, 0);
        return x;
    }

    static void items(GraveOrder x, int s, int form, int... values) {
        x.sheet(s, form, values.length);
        for (int i = 0; i < values.length; i++) {
            x.put(s, form, i, values[i]);
        }
    }

    /** Tells so many tellings of grave 0 at a time: kind 9 is there, again and again. */
    static void tellings(GraveOrder x, int n, int time) {
        for (int left = n; left > 0; left -= 10) {
            StringBuilder line = new StringBuilder("0:9");
            for (int i = 1; i < Math.min(10, left); i++) {
                line.append(",9");
            }
            told(x, line.toString(), time);
        }
    }
}
