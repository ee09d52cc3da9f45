/** What the tests by hand stand on: lines laid by a text, looks at them, and calls that are refused. */
abstract class Bench {
    static final int BAD = BackwardsLine.BAD, NO = BackwardsLine.NO;
    static final int FULL = BackwardsLine.FULL, NONE = BackwardsLine.NONE;
    static final int MIN = Integer.MIN_VALUE, MAX = Integer.MAX_VALUE;
    static final int[] FAR_OFF = {MIN, -1000, 1000, MAX};

    /** Three plain ones come in minute 1, so they stand 2, 1, 0 from the tail. */
    static final String THREE = "p0,1,0;p0,1,0;p0,1,0;";
    /** Nine plain ones come in minute 1, so they stand 8, 7, .. 0 from the tail. */
    static final String NINE = THREE + THREE + THREE;

    static final Check check = new Check();

    interface Call {
        int on(BackwardsLine x);
    }

    interface Moves {
        void on(BackwardsLine x);
    }

    static void due(String call, long got, long want) {
        check.due(call, got, want);
    }

    static void letters(BackwardsLine x, String text) {
        for (int i = 0; i < text.length(); i++) {
            x.write(text.charAt(i));
        }
    }

    static BackwardsLine written(String text) {
        BackwardsLine x = new BackwardsLine();
        letters(x, text);
        return x;
    }

    static BackwardsLine laid(String text) {
        BackwardsLine x = written(text);
        check.holds("lay() of " + text, x.lay() > 0);
        return x;
    }

    static BackwardsLine laid(String text, int minutes) {
        BackwardsLine x = laid(text);
        x.pass(minutes);
        return x;
    }

    /** All that stand, from the tail on, and nobody behind them. */
    static void line(BackwardsLine x, int... people) {
        due("count(2)", x.count(2), people.length);
        for (int k = 0; k < people.length; k++) {
            due("at(" + k + ")", x.at(k), people[k]);
            due("person(" + people[k] + ", 3)", x.person(people[k], 3), 1);
            due("person(" + people[k] + ", 4)", x.person(people[k], 4), k);
        }
        due("at(" + people.length + ")", x.at(people.length), NONE);
    }

    /** Who has EATEN in which minute, one minute behind the other from now on. */
    static void eaters(BackwardsLine x, int... people) {
        for (int p : people) {
            int minute = x.count(1);
            x.pass(1);
            if (p != NONE) {
                due("person(" + p + ", 6)", x.person(p, 6), minute);
            }
        }
    }

    /** RUMOURS, above and below. */
    static void chance(BackwardsLine x, int p, int n, int tenths, int above, int below) {
        String call = "rumours(" + p + ", " + n + ", " + tenths + ", ";
        due(call + "0)", x.rumours(p, n, tenths, 0), above);
        due(call + "1)", x.rumours(p, n, tenths, 1), below);
    }

    static boolean in(int x, int low, int high) {
        return low <= x && x <= high;
    }

    /** The last that are told, the first that are not, and far off. */
    static int[] edges(int low, int high) {
        return new int[] {MIN, -1000, low - 1, low, high, high + 1, 1000000, MAX};
    }

    /** As it stands: counts, people, places. */
    private static void look(BackwardsLine x, StringBuilder told) {
        for (int what = 0; what <= 9; what++) {
            told.append(x.count(what)).append(' ');
        }
        int people = x.count(0);
        for (int p = 0; p < people; p++) {
            for (int what = 0; what < 8; what++) {
                told.append(x.person(p, what)).append(' ');
            }
        }
        int standing = x.count(2);
        for (int k = 0; k < standing; k++) {
            told.append(x.at(k)).append(' ');
        }
        told.append('\n');
    }

    /** All that calls can bring to light, what can be UNDONE, is KEPT and is written too; it uses the object up. */
    static String story(BackwardsLine x) {
        StringBuilder told = new StringBuilder();
        look(x, told);
        told.append(x.sneezed()).append(' ').append(x.kinds(0)).append(' ').append(x.warmth(60)).append('\n');
        for (int i = 0; i <= 8 && x.undo() >= 0; i++) {
            look(x, told);
        }
        for (int i = 0; i <= 2 && x.back() >= 0; i++) {
            look(x, told);
        }
        told.append(x.fault()).append(' ').append(x.lay()).append(' ').append(x.wipe()).append('\n');
        look(x, told);
        return told.toString();
    }

    /** The answer, and that nothing changes by it: a twin that is not asked tells the same story. */
    static void refused(String call, int want, Moves ahead, Call asked) {
        BackwardsLine x = new BackwardsLine();
        BackwardsLine twin = new BackwardsLine();
        ahead.on(x);
        ahead.on(twin);
        due(call, asked.on(x), want);
        check.holds(call + " changes nothing", story(x).equals(story(twin)));
    }
}
