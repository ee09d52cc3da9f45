/** The promises, call by call: which numbers are told, what is refused, in which order, and that nothing changes then. */
public final class CallEdgesTest extends Bench {
    /** 2 at the TAIL, 0 at the HEAD, 1 AWAY, 3 has EATEN, 4 has not come; something SEEN, KEPT and to be UNDONE. */
    private static final String FIVE = "p0,1,0;p0,1,0;p0,1,0;p0,1,0;p0,90,1;b3,9;";

    public static void main(String[] args) {
        personsSuchAsThereAre();
        numbersThatAreTold();
        lettersThatAreTold();
        placesThatAreTold();
        newObject();
        writeRefused();
        layRefused();
        laidAnew();
        laidOfFewer();
        passRefused();
        giveUpRefused();
        sneezeRefused();
        leaveRefused();
        againRefused();
        undoRefused();
        seeRefused();
        keepRefused();
        backRefused();
        askedRefused();
        askingChangesNothing();
        badAheadOfNo();
        badAheadOfNone();
        badAheadOfFull();
        noAheadOfNone();
        refusedIsNotUndone();
        wipedAndForgotten();
        personWhat();
        atWhat();
        passedInAll();
        countWhat();
        check.end("CallEdgesTest");
    }

    private interface Asked {
        int on(BackwardsLine x, int[] numbers);
    }

    private static void five(BackwardsLine x) {
        letters(x, FIVE);
        x.lay();
        x.pass(4);
        x.keep();
        x.leave(1);
        x.see(0, 5, true);
    }

    private static BackwardsLine five() {
        BackwardsLine x = new BackwardsLine();
        five(x);
        return x;
    }

    /** Each number at its edges and far off, together with each other one: BAD, if one is none that is told. */
    private static void ranges(String call, Asked asked, int... lowHigh) {
        int[] numbers = new int[lowHigh.length / 2];
        range(call, asked, lowHigh, numbers, 0);
    }

    private static void range(String call, Asked asked, int[] lowHigh, int[] numbers, int i) {
        if (i == numbers.length) {
            boolean told = true;
            for (int j = 0; j < i; j++) {
                told &= in(numbers[j], lowHigh[2 * j], lowHigh[2 * j + 1]);
            }
            boolean bad = asked.on(five(), numbers) == BAD;
            check.holds(call + " of " + java.util.Arrays.toString(numbers) + " is told: " + told, bad != told);
            return;
        }
        for (int n : edges(lowHigh[2 * i], lowHigh[2 * i + 1])) {
            numbers[i] = n;
            range(call, asked, lowHigh, numbers, i + 1);
        }
    }

    private static void numbersThatAreTold() {
        check.promise("BAD: a number is none that is told");
        ranges("person", (x, a) -> x.person(a[0], a[1]), 0, 4, 0, 7);
        ranges("pass", (x, a) -> x.pass(a[0]), 1, 30);
        ranges("giveUp", (x, a) -> x.giveUp(a[0]), 0, 4);
        ranges("sneeze", (x, a) -> x.sneeze(a[0]), 0, 4);
        ranges("leave", (x, a) -> x.leave(a[0]), 0, 4);
        ranges("again", (x, a) -> x.again(a[0]), 0, 4);
        ranges("behind", (x, a) -> x.behind(a[0], a[1]), 0, 60, -1, 8);
        ranges("when", (x, a) -> x.when(a[0]), 0, 4);
        ranges("besides", (x, a) -> x.besides(a[0]), 0, 4);
        ranges("family", (x, a) -> x.family(a[0], a[1]), 1, 4, 0, 5);
        ranges("warmth", (x, a) -> x.warmth(a[0]), 0, 60);
        ranges("see true", (x, a) -> x.see(a[0], a[1], true), 0, 4, 1, 60);
        ranges("see false", (x, a) -> x.see(a[0], a[1], false), 0, 4, 1, 60);
        ranges("kinds", (x, a) -> x.kinds(a[0]), 0, 4);
        ranges("rumours", (x, a) -> x.rumours(a[0], a[1], a[2], a[3]), 0, 4, 0, 8, 0, 10, 0, 1);
        ranges("day", (x, a) -> x.day(a[0], a[1], a[2]), 0, 9999, 1, 60, 0, 1);
        ranges("count", (x, a) -> x.count(a[0]), 0, 9);
    }

    private static void personsSuchAsThereAre() {
        check.promise("(PERSONS: such as there are)");
        for (int people = 1; people <= 9; people++) {
            for (int p : new int[] {0, people - 1, people, 8, 9}) {
                BackwardsLine x = laid("p0,1,0;".repeat(people) + "b9,9;", 2);
                boolean there = p < people;
                due("person(" + p + ", 1) of " + people, x.person(p, 1), there ? 1 : BAD);
                due("when(" + p + ") of " + people, x.when(p), there ? 9 * (people - p) - 1 : BAD);
                check.holds("besides", x.besides(p) == BAD != there);
                due("kinds(" + p + ") of " + people, x.kinds(p), there ? 15 : BAD);
                due("rumours(" + p + ", 0, 0, 1) of " + people, x.rumours(p, 0, 0, 1), there ? 1 : BAD);
                due("see(" + p + ", 1, true) of " + people, x.see(p, 1, true), there ? 1 : BAD);
                due("giveUp(" + p + ") of " + people, x.giveUp(p), !there ? BAD : p == 0 ? NO : people - p);
                due("sneeze(" + p + ") of " + people, x.sneeze(p), there ? people : BAD);
                due("leave(" + p + ") of " + people, x.leave(p), there ? people - 1 : BAD);
                due("again(" + p + ") of " + people, x.again(p), there ? 0 : BAD);
            }
        }
    }

    private static void lettersThatAreTold() {
        check.promise("A letter (32 to 126, as in ASCII)");
        BackwardsLine x = new BackwardsLine();
        int many = 0;
        for (int letter = -2; letter <= 130; letter++) {
            boolean told = in(letter, 32, 126);
            many += told ? 1 : 0;
            due("write(" + letter + ")", x.write(letter), told ? many : BAD);
        }
        for (int letter : new int[] {MIN, -65536 + 112, 256 + 112, 65536 + 112, MAX}) { // no p by a cast, either
            due("write(" + letter + ")", x.write(letter), BAD);
        }
        due("count(9)", x.count(9), 95);
    }

    private static void placesThatAreTold() {
        check.promise("NONE: there are not so many; BAD: k below 0");
        BackwardsLine x = laid(NINE + "b9,9;", 2);
        due("at(min)", x.at(MIN), BAD);
        due("at(-1)", x.at(-1), BAD);
        due("at(0)", x.at(0), 8);
        due("at(8)", x.at(8), 0);
        due("at(9)", x.at(9), NONE);
        due("at(max)", x.at(MAX), NONE);
        BackwardsLine y = five();
        due("at(0)", y.at(0), 2);
        due("at(1)", y.at(1), 0);
        due("at(2)", y.at(2), NONE);
        due("at(-1) of an empty LINE", laid(THREE).at(-1), BAD);
        due("at(0) of an empty LINE", laid(THREE).at(0), NONE);
    }

    private static void newObject() {
        check.promise("1 As told; THE TEXT is empty");
        BackwardsLine x = new BackwardsLine();
        due("fault()", x.fault(), NONE);
        due("lay()", x.lay(), NO);
        due("wipe()", x.wipe(), 0);
        due("write('p')", x.write('p'), 1);
        BackwardsLine other = new BackwardsLine();
        due("count(9) of another", other.count(9), 0);
    }

    private static void writeRefused() {
        check.promise("2 write: BAD; FULL");
        refused("write(31)", BAD, x -> x.pass(3), x -> x.write(31));
        refused("write(127)", BAD, x -> x.pass(3), x -> x.write(127));
        Moves full = x -> letters(x, "p0,0,0;".repeat(9) + "b2,2;".repeat(26) + "r2;r2;;");
        due("count(9)", told(full).count(9), 200);
        refused("write(';')", FULL, full, x -> x.write(';'));
        refused("write(32)", FULL, full, x -> x.write(32));
        refused("write(126)", FULL, full, x -> x.write(126));
        refused("write(31)", BAD, full, x -> x.write(31));
        refused("write(127)", BAD, full, x -> x.write(127));
    }

    private static BackwardsLine told(Moves ahead) {
        BackwardsLine x = new BackwardsLine();
        ahead.on(x);
        return x;
    }

    private static void layRefused() {
        check.promise("5 lay: NO");
        for (String text : new String[] {"", "b3,3;", "r3;", "b3,3;r3;", "p0,0,0", "p0,0,0;p4,0,0;", "p1,1,1;".repeat(6)}) {
            Moves ahead = x -> {
                five(x);
                x.wipe();
                letters(x, text);
            };
            refused("lay() of " + text, NO, ahead, BackwardsLine::lay);
        }
    }

    private static void laidAnew() {
        check.promise("5 LAID: how many PERSONS; ahead of minute 0, nothing SEEN, UNDONE, KEPT; THE TEXT stays");
        BackwardsLine x = five();
        x.sneeze(2);
        due("lay()", x.lay(), 5);
        due("count(9): THE TEXT stays", x.count(9), FIVE.length());
        for (int what = 1; what <= 8; what++) {
            due("count(" + what + ")", x.count(what), 0);
        }
        due("undo()", x.undo(), NO);
        due("back()", x.back(), NO);
        due("forget()", x.forget(), 0);
        check.holds("as a new one by the same text", story(x).equals(story(laid(FIVE))));
    }

    private static void laidOfFewer() {
        check.promise("5 LAID: how many PERSONS");
        BackwardsLine x = laid("p0,0,1;p0,9,1;p2,9,1;b1,9;r2;");
        x.wipe();
        letters(x, "p0,9,1;b1,9;");
        due("lay()", x.lay(), 1);
        due("count(0)", x.count(0), 1);
        due("person(0, 1)", x.person(0, 1), 9);
        due("person(1, 1)", x.person(1, 1), BAD);
        due("family(1, 0)", x.family(1, 0), 0);
        due("family(1, 1)", x.family(1, 1), 0);
        due("family(1, 2)", x.family(1, 2), NONE);
        due("sneezed()", x.sneezed(), 512);
        due("pass(9)", x.pass(9), 0);
        line(x);
        due("pass(1)", x.pass(1), 1);
    }

    private static void passRefused() {
        check.promise("8 n MINUTES (1 to 30) go by. BAD");
        for (int n : new int[] {MIN, -1, 0, 31, 60, MAX}) {
            refused("pass(" + n + ")", BAD, CallEdgesTest::five, x -> x.pass(n));
        }
        for (int n = 1; n <= 30; n++) {
            BackwardsLine x = laid("p0,0,0;p0," + (n - 1) + ",0;p0," + n + ",0;b1,9;");
            due("pass(" + n + ")", x.pass(n), 2 - (n == 1 ? 1 : 0));
            due("count(1)", x.count(1), n);
            due("person(2, 3)", x.person(2, 3), 0);
        }
    }

    private static void giveUpRefused() {
        check.promise("9 giveUp: BAD; NO: not in the LINE, at the HEAD");
        for (int p : new int[] {MIN, -1, 5, 9, MAX}) {
            refused("giveUp(" + p + ")", BAD, CallEdgesTest::five, x -> x.giveUp(p));
        }
        refused("giveUp(0), at the HEAD", NO, CallEdgesTest::five, x -> x.giveUp(0));
        refused("giveUp(1), AWAY", NO, CallEdgesTest::five, x -> x.giveUp(1));
        refused("giveUp(3), who has EATEN", NO, CallEdgesTest::five, x -> x.giveUp(3));
        refused("giveUp(4), who has not come", NO, CallEdgesTest::five, x -> x.giveUp(4));
        due("giveUp(2)", five().giveUp(2), 1);
    }

    private static void sneezeRefused() {
        check.promise("10 sneeze: BAD; NO: not in the LINE");
        for (int p : new int[] {MIN, -1, 5, 9, MAX}) {
            refused("sneeze(" + p + ")", BAD, CallEdgesTest::five, x -> x.sneeze(p));
        }
        refused("sneeze(1), AWAY", NO, CallEdgesTest::five, x -> x.sneeze(1));
        refused("sneeze(3), who has EATEN", NO, CallEdgesTest::five, x -> x.sneeze(3));
        refused("sneeze(4), who has not come", NO, CallEdgesTest::five, x -> x.sneeze(4));
        due("sneeze(0), at the HEAD", five().sneeze(0), 2);
        due("sneeze(2)", five().sneeze(2), 2);
    }

    private static void leaveRefused() {
        check.promise("11 leave: BAD; NO: not in the LINE");
        for (int p : new int[] {MIN, -1, 5, 9, MAX}) {
            refused("leave(" + p + ")", BAD, CallEdgesTest::five, x -> x.leave(p));
        }
        refused("leave(1), AWAY", NO, CallEdgesTest::five, x -> x.leave(1));
        refused("leave(3), who has EATEN", NO, CallEdgesTest::five, x -> x.leave(3));
        refused("leave(4), who has not come", NO, CallEdgesTest::five, x -> x.leave(4));
        BackwardsLine x = five();
        due("leave(0), at the HEAD", x.leave(0), 1);
        due("leave(2), the last one", x.leave(2), 0);
        line(x);
    }

    private static void againRefused() {
        check.promise("12 again: BAD; NO: not AWAY");
        for (int p : new int[] {MIN, -1, 5, 9, MAX}) {
            refused("again(" + p + ")", BAD, CallEdgesTest::five, x -> x.again(p));
        }
        refused("again(0), in the LINE", NO, CallEdgesTest::five, x -> x.again(0));
        refused("again(2), in the LINE", NO, CallEdgesTest::five, x -> x.again(2));
        refused("again(3), who has EATEN", NO, CallEdgesTest::five, x -> x.again(3));
        refused("again(4), who has not come", NO, CallEdgesTest::five, x -> x.again(4));
        BackwardsLine x = five();
        due("again(1)", x.again(1), 0);
        due("again(1) once more", x.again(1), NO);
    }

    private static void undoRefused() {
        check.promise("13 undo: NO");
        refused("undo() of a new one", NO, BackwardsLine::wipe, BackwardsLine::undo);
        Moves kept = x -> {
            five(x);
            x.back();
            x.keep();
        };
        refused("undo() behind back()", NO, kept, BackwardsLine::undo);
        Moves undone = x -> {
            five(x);
            x.undo();
            x.undo();
        };
        refused("undo() of all that was", NO, undone, BackwardsLine::undo);
    }

    private static void seeRefused() {
        check.promise("21 see: BAD; FULL");
        Moves six = x -> {
            five(x);
            for (int i = 0; i < 5; i++) {
                x.see(i, 60, i % 2 == 0);
            }
        };
        due("count(6)", told(six).count(6), 6);
        refused("see(0, 1, true)", FULL, six, x -> x.see(0, 1, true));
        refused("see(4, 60, false)", FULL, six, x -> x.see(4, 60, false));
        for (Moves ahead : new Moves[] {CallEdgesTest::five, six}) {
            refused("see(-1, 1, true)", BAD, ahead, x -> x.see(-1, 1, true));
            refused("see(5, 1, true)", BAD, ahead, x -> x.see(5, 1, true));
            refused("see(0, 0, true)", BAD, ahead, x -> x.see(0, 0, true));
            refused("see(0, 61, true)", BAD, ahead, x -> x.see(0, 61, true));
        }
    }

    private static void keepRefused() {
        check.promise("27 keep: FULL");
        Moves two = x -> {
            five(x);
            x.keep();
            x.sneeze(2);
        };
        refused("keep()", FULL, two, BackwardsLine::keep);
        due("keep()", five().keep(), 2);
    }

    private static void backRefused() {
        check.promise("28 back: NO");
        refused("back() of a new one", NO, x -> x.pass(3), BackwardsLine::back);
        Moves none = x -> {
            five(x);
            x.back();
            x.pass(1);
        };
        refused("back() of all that was KEPT", NO, none, BackwardsLine::back);
    }

    private static void askedRefused() {
        check.promise("nothing changes then");
        refused("person(5, 0)", BAD, CallEdgesTest::five, x -> x.person(5, 0));
        refused("person(0, 8)", BAD, CallEdgesTest::five, x -> x.person(0, 8));
        refused("at(-1)", BAD, CallEdgesTest::five, x -> x.at(-1));
        refused("at(2)", NONE, CallEdgesTest::five, x -> x.at(2));
        refused("behind(61, 0)", BAD, CallEdgesTest::five, x -> x.behind(61, 0));
        refused("behind(0, 2)", NONE, CallEdgesTest::five, x -> x.behind(0, 2));
        refused("when(1), AWAY", NONE, CallEdgesTest::five, x -> x.when(1));
        refused("when(3), who has EATEN", NO, CallEdgesTest::five, x -> x.when(3));
        refused("when(5)", BAD, CallEdgesTest::five, x -> x.when(5));
        refused("besides(1), AWAY", NONE, CallEdgesTest::five, x -> x.besides(1));
        refused("besides(3), who has EATEN", NO, CallEdgesTest::five, x -> x.besides(3));
        refused("besides(5)", BAD, CallEdgesTest::five, x -> x.besides(5));
        refused("family(1, 2)", NONE, CallEdgesTest::five, x -> x.family(1, 2));
        refused("family(2, 0)", NO, CallEdgesTest::five, x -> x.family(2, 0));
        refused("family(5, 0)", BAD, CallEdgesTest::five, x -> x.family(5, 0));
        refused("warmth(61)", BAD, CallEdgesTest::five, x -> x.warmth(61));
        refused("kinds(5)", BAD, CallEdgesTest::five, x -> x.kinds(5));
        refused("rumours(0, 9, 0, 0)", BAD, CallEdgesTest::five, x -> x.rumours(0, 9, 0, 0));
        refused("day(0, 61, 0)", BAD, CallEdgesTest::five, x -> x.day(0, 61, 0));
        refused("count(10)", BAD, CallEdgesTest::five, x -> x.count(10));
    }

    private static void askingChangesNothing() {
        check.promise("what comes, what was seen, rumours, days: nothing changes by asking");
        // ahead of minute 4; 2 stands at the TAIL, 0 at the HEAD; LOAVES in 6 and 9
        refused("fault()", NONE, CallEdgesTest::five, BackwardsLine::fault);
        refused("behind(3, -1)", 1, CallEdgesTest::five, x -> x.behind(3, -1));
        refused("behind(60, 8)", NONE, CallEdgesTest::five, x -> x.behind(60, 8));
        refused("when(0)", 6, CallEdgesTest::five, x -> x.when(0));
        refused("when(4)", 87, CallEdgesTest::five, x -> x.when(4));
        refused("pays()", 1, CallEdgesTest::five, BackwardsLine::pays);
        refused("gains()", 0, CallEdgesTest::five, BackwardsLine::gains);
        refused("besides(0)", 3, CallEdgesTest::five, x -> x.besides(0));
        refused("family(1, 0): he eats in 6 at the TAIL", 2, CallEdgesTest::five, x -> x.family(1, 0));
        refused("family(1, 1)", 4, CallEdgesTest::five, x -> x.family(1, 1));
        refused("warmth(60)", 15, CallEdgesTest::five, x -> x.warmth(60));
        refused("sneezed(): 0 by 5 minutes, if 2 sneezes", 4, CallEdgesTest::five, BackwardsLine::sneezed);
        refused("kinds(2): a SNEEZER or PROUD", 12, CallEdgesTest::five, x -> x.kinds(2));
        refused("rumours(0, 3, 4, 1)", 5, CallEdgesTest::five, x -> x.rumours(0, 3, 4, 1));
        refused("day(9999, 60, 0): 1 comes again", 4, CallEdgesTest::five, x -> x.day(9999, 60, 0));
    }

    private static void badAheadOfNo() {
        check.promise("BAD .. NO .. Of several the first in this order");
        BackwardsLine x = laid(THREE); // nobody stands in the LINE, nobody is AWAY, no FAMILY is to come
        for (int p : new int[] {-1, 3}) {
            due("giveUp(" + p + ")", x.giveUp(p), BAD);
            due("sneeze(" + p + ")", x.sneeze(p), BAD);
            due("leave(" + p + ")", x.leave(p), BAD);
            due("again(" + p + ")", x.again(p), BAD);
        }
        for (int p = 0; p < 3; p++) {
            due("giveUp(" + p + ")", x.giveUp(p), NO);
            due("sneeze(" + p + ")", x.sneeze(p), NO);
            due("leave(" + p + ")", x.leave(p), NO);
            due("again(" + p + ")", x.again(p), NO);
        }
        due("family(1, 5)", x.family(1, 5), NO);
        due("family(1, 6)", x.family(1, 6), BAD);
        due("family(1, -1)", x.family(1, -1), BAD);
        due("family(4, 0)", x.family(4, 0), NO);
        due("family(5, 0)", x.family(5, 0), BAD);
    }

    private static void badAheadOfNone() {
        check.promise("BAD .. NONE .. Of several the first in this order");
        BackwardsLine x = laid(THREE + "p0,9,1;");
        due("behind(0, 8)", x.behind(0, 8), NONE);
        due("behind(0, 9)", x.behind(0, 9), BAD);
        due("behind(-1, 8)", x.behind(-1, 8), BAD);
        due("behind(61, 8)", x.behind(61, 8), BAD);
        due("family(1, 5)", x.family(1, 5), NONE);
        due("family(1, 6)", x.family(1, 6), BAD);
        due("person(3, 7)", x.person(3, 7), NONE);
        due("person(4, 7)", x.person(4, 7), BAD);
        due("person(3, 8)", x.person(3, 8), BAD);
    }

    private static void badAheadOfFull() {
        check.promise("BAD .. FULL .. Of several the first in this order");
        BackwardsLine x = laid(THREE);
        for (int i = 0; i < 6; i++) {
            x.see(0, 1, true);
        }
        due("see(0, 1, true)", x.see(0, 1, true), FULL);
        due("see(3, 1, true)", x.see(3, 1, true), BAD);
        due("see(0, 0, true)", x.see(0, 0, true), BAD);
        due("see(0, 61, true)", x.see(0, 61, true), BAD);
        for (int i = x.count(9); i < 200; i++) {
            x.write('p');
        }
        due("write(126)", x.write(126), FULL);
        due("write(127)", x.write(127), BAD);
        due("write(31)", x.write(31), BAD);
    }

    private static void noAheadOfNone() {
        check.promise("NO .. NONE .. Of several the first in this order");
        BackwardsLine x = laid("p0,0,2;p0,9,3;b1,9;", 1);
        for (int k = 0; k <= 5; k++) {
            due("family(1, " + k + ")", x.family(1, k), NO);
            due("family(2, " + k + "), who has EATEN", x.family(2, k), NO);
        }
        for (int k = 2; k <= 5; k++) {
            due("family(3, " + k + ")", x.family(3, k), NONE);
        }
    }

    private static void refusedIsNotUndone() {
        check.promise("UNDONE is the latest of minutes, GIVING UP, SNEEZE, LEAVING, AGAIN");
        BackwardsLine x = five();
        due("count(7)", x.count(7), 2);
        x.pass(0);
        x.pass(31);
        x.giveUp(0);
        x.sneeze(3);
        x.leave(4);
        x.again(2);
        x.see(0, 1, true);
        x.forget();
        x.keep();
        x.write('z');
        x.wipe();
        due("count(7)", x.count(7), 2);
        x.pass(1);
        x.giveUp(2);
        x.sneeze(0);
        x.leave(0);
        x.again(0);
        due("count(7)", x.count(7), 7);
        due("undo() of AGAIN", x.undo(), 6);
        due("person(0, 3)", x.person(0, 3), 2);
        due("undo() of LEAVING", x.undo(), 5);
        line(x, 2, 0);
        due("person(0, 5)", x.person(0, 5), 0);
        due("undo() of a SNEEZE", x.undo(), 4);
        line(x, 0, 2);
        due("person(0, 5)", x.person(0, 5), 4);
        due("undo() of GIVING UP", x.undo(), 3);
        line(x, 2, 0);
        due("undo() of a minute", x.undo(), 2);
        due("count(1)", x.count(1), 4);
        due("undo() of LEAVING", x.undo(), 1);
        line(x, 2, 1, 0);
        due("undo() of four minutes", x.undo(), 0);
        due("count(1)", x.count(1), 0);
        due("count(8): KEPT stays", x.count(8), 2);
        due("undo()", x.undo(), NO);
    }

    private static void wipedAndForgotten() {
        check.promise("3 THE TEXT is empty: how long it was");
        BackwardsLine x = five();
        due("wipe()", x.wipe(), FIVE.length());
        due("wipe() of nothing", x.wipe(), 0);
        due("fault()", x.fault(), NONE);
        due("count(0): what is LAID stays", x.count(0), 5);
        due("count(1)", x.count(1), 4);
        check.promise("22 Nothing is SEEN: how many were");
        due("forget()", x.forget(), 1);
        due("forget() of nothing", x.forget(), 0);
        due("sneezed()", x.sneezed(), 512 + 0b00101);
        due("kinds(0)", x.kinds(0), 15);
    }

    private static void personWhat() {
        check.promise("6 Of a PERSON: .. where (3: 0 not come yet, 1 in the LINE, 2 AWAY, 3 has EATEN)");
        BackwardsLine x = five();
        int[][] want = {
            {0, 1, 0, 1, 1, 3, NONE, NONE}, {0, 1, 0, 2, NONE, 0, NONE, NONE}, {0, 1, 0, 1, 0, 3, NONE, NONE},
            {0, 1, 0, 3, NONE, 0, 3, 9}, {0, 90, 1, 0, NONE, 0, NONE, NONE}};
        for (int p = 0; p < 5; p++) {
            for (int what = 0; what < 8; what++) {
                due("person(" + p + ", " + what + ")", x.person(p, what), want[p][what]);
            }
        }
        BackwardsLine cold = laid("p0,0,0;b1,0;", 1);
        due("person(0, 6): in minute 0", cold.person(0, 6), 0);
        due("person(0, 7): 0 is no NONE", cold.person(0, 7), 0);
    }

    private static void atWhat() {
        check.promise("7 Who stands at the k-th place from the TAIL (0 first)");
        BackwardsLine x = laid(NINE + "b1,9;", 1);
        for (int size = 8; size >= 0; size--) {
            x.pass(1);
            for (int k = 0; k <= 9; k++) {
                due("at(" + k + ") of " + size, x.at(k), k < size ? size - 1 - k : NONE);
            }
        }
    }

    private static void passedInAll() {
        check.promise("8 how many have EATEN in all");
        BackwardsLine x = laid(NINE + "b1,9;", 1);
        for (int eaten = 1; eaten <= 9; eaten++) {
            due("pass(1)", x.pass(1), eaten);
        }
        due("pass(30)", x.pass(30), 9);
        due("pass(10)", laid(NINE + "b1,9;").pass(10), 9);
        due("pass(9)", laid(NINE + "b1,9;").pass(9), 8);
    }

    private static void countWhat() {
        check.promise("29 How many: 0 PERSONS, 1 minutes gone by, 2 in the LINE, 3 AWAY, 4 that have EATEN, 5 LOAVES given");
        BackwardsLine x = five();
        int[] want = {5, 4, 2, 1, 1, 1, 1, 2, 1, FIVE.length()};
        for (int what = 0; what <= 9; what++) {
            due("count(" + what + ")", x.count(what), want[what]);
        }
        due("count(-1)", x.count(-1), BAD);
        due("count(10)", x.count(10), BAD);
        BackwardsLine most = laid(NINE + "b1,9;", 30);
        due("count(0)", most.count(0), 9);
        due("count(4)", most.count(4), 9);
        due("count(5)", most.count(5), 9);
    }
}
