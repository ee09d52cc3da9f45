/** Each promise by cases worked out by hand from the document, the model and the program aside. */
public final class PromiseTest extends Bench {
    public static void main(String[] args) {
        newObject();
        write();
        wipe();
        faultOfItems();
        faultOfSeveralItems();
        lay();
        layStartsAnew();
        lastBakerAndRumourCount();
        person();
        at();
        passJoins();
        passSneezes();
        passGives();
        nineInLine();
        giveUp();
        sneeze();
        leave();
        again();
        undo();
        undoOfEach();
        behind();
        when();
        pays();
        gains();
        besides();
        family();
        familyLater();
        warmth();
        see();
        forget();
        sneezed();
        seenFromWhenItIsAsked();
        kinds();
        rumours();
        rumoursWhateverIsTold();
        day();
        keepAndBack();
        count();
        check.end("PromiseTest");
    }

    private static void newObject() {
        check.promise("1 new object");
        int[][] told = {{0, 0, 0}, {1, 0, 1}, {0, 1, 1}, {2, 2, 0}, {0, 3, 2}, {3, 4, 2}, {1, 6, 0}, {0, 8, 0}, {2, 9, 1}};
        BackwardsLine x = new BackwardsLine();
        due("count(0)", x.count(0), 9);
        for (int what = 1; what <= 9; what++) {
            due("count(" + what + ")", x.count(what), 0);
        }
        for (int p = 0; p < 9; p++) {
            for (int what = 0; what < 3; what++) {
                due("person(" + p + ", " + what + ")", x.person(p, what), told[p][what]);
            }
            due("person(" + p + ", 3)", x.person(p, 3), 0);
        }
        line(x);
        due("fault()", x.fault(), NONE);
        due("lay() of an empty text", x.lay(), NO);
        due("undo()", x.undo(), NO);
        due("back()", x.back(), NO);
        // b3,20: 0 and 1 come in minute 0, and as 0 is plain, 1 stands at the tail; it is r7, so 0 is a rumour
        due("pass(1)", x.pass(1), 1);
        line(x, 1);
        due("person(0, 7)", x.person(0, 7), 20);
        due("warmth(2)", x.warmth(2), 0);
        due("warmth(3)", x.warmth(3), 19);
        due("constants", BAD * 1000 + NO * 100 + FULL * 10 + NONE, -1234);
    }

    private static void write() {
        check.promise("2 write");
        BackwardsLine x = new BackwardsLine();
        due("write(31)", x.write(31), BAD);
        due("write(127)", x.write(127), BAD);
        due("write(-1)", x.write(-1), BAD);
        for (int letter : FAR_OFF) {
            due("write(" + letter + ")", x.write(letter), BAD);
        }
        due("write(32)", x.write(32), 1);
        due("write(126)", x.write(126), 2);
        for (int i = 3; i <= 200; i++) {
            due("write('p')", x.write('p'), i);
        }
        due("write('p') in a full text", x.write('p'), FULL);
        due("write(31) in a full text", x.write(31), BAD);
        due("count(9)", x.count(9), 200);
    }

    private static void wipe() {
        check.promise("3 wipe");
        BackwardsLine x = new BackwardsLine();
        due("wipe()", x.wipe(), 0);
        letters(x, "p0,0,0;zz");
        due("wipe()", x.wipe(), 9);
        due("wipe()", x.wipe(), 0);
        due("count(9)", x.count(9), 0);
        due("fault()", x.fault(), NONE);
        due("count(0): what is laid stays", x.count(0), 9);
    }

    private static void fault(String text, int want) {
        BackwardsLine x = new BackwardsLine();
        letters(x, text);
        due("fault() of " + text, x.fault(), want);
        due("count(9) behind it", x.count(9), text.length());
    }

    private static void faultOfItems() {
        check.promise("4 fault");
        String[] right = {"", "p0,0,0;", "p3,99,4;", "p00,07,04;", "b1,0;", "b9,40;", "b09,00;", "r2;", "r30;", "r02;"};
        for (String text : right) {
            fault(text, NONE);
        }
        String[] wrong = {"p4,0,0;", "p0,0,5;", "p0,100,0;", "p0,0;", "p0,0,0,0;", "p0,0,0", "p0,0,0,", "p,0,0;",
            "p0,,0;", "p0,0,;", "p 0,0,0;", "p0, 0,0;", "p-1,0,0;", "p000,0,0;", "p0;0;0;", "p0,0,0:", "p", "p;",
            "b0,5;", "b10,5;", "b1,41;", "b5;", "b5,5,5;", "b5,5", "b", "r0;", "r1;", "r31;", "r2,2;", "r;", "r2", "r",
            "x;", ";", " ", "0;", "P0,0,0;", "B2,2;", "R2;", " p0,0,0;", ",", "x1;", "q0,0,0;"};
        for (String text : wrong) {
            fault(text, 0);
            fault("p0,0,0;b2,20;" + text, 13);
        }
    }

    private static void faultOfSeveralItems() {
        check.promise("4 fault");
        fault("p0,0,0;p1,11,1;r5;b2,2;p3,99,4;", NONE);
        fault("p0,0,0;p1,11,1;r5 ;b2,2;p3,99,4;", 15);
        fault("p0,0,0;p9,0,0;r1;", 7);
        fault("p0,0,0;;", 7);
        fault("r2;r3;b1,1;b2,2;", NONE);
        fault("r2;r1;r3;", 3);
        String five = "p0,0,1;p0,0,1;p0,0,1;p0,0,1;p0,0,1;";
        fault(five, NONE);
        fault(five + "p0,0,2;p0,0,0;", NONE);
        fault(five + "b2,2;p0,0,1;", 40);
        fault("p0,0,4;p0,0,4;p0,0,4;p0,0,4;p0,0,4;p0,0,4;", 35);
        String nine = "p0,0,0;p0,0,0;p0,0,0;p0,0,0;p0,0,0;p0,0,0;p0,0,0;p0,0,0;p0,0,0;";
        fault(nine, NONE);
        fault(nine + "b2,2;p0,0,0;", 68);
    }

    private static void lay() {
        check.promise("5 lay");
        BackwardsLine x = new BackwardsLine();
        x.pass(1);
        x.keep();
        x.see(1, 1, true);
        for (String text : new String[] {"", "b2,2;r3;", "p0,0,0;p0,0,0", "p0,0,0;x"}) {
            x.wipe();
            letters(x, text);
            due("lay() of " + text, x.lay(), NO);
            due("count(0)", x.count(0), 9);
            due("count(1)", x.count(1), 1);
            due("count(6)", x.count(6), 1);
            due("count(7)", x.count(7), 1);
            due("count(8)", x.count(8), 1);
        }
        x.wipe();
        letters(x, "b3,3;p2,45,3;p1,6,0;");
        due("lay()", x.lay(), 2);
        due("count(9): THE TEXT stays", x.count(9), 20);
        due("person(0, 0)", x.person(0, 0), 2);
        due("person(0, 1)", x.person(0, 1), 45);
        due("person(0, 2)", x.person(0, 2), 3);
        due("person(1, 0)", x.person(1, 0), 1);
        due("person(2, 0)", x.person(2, 0), BAD);
    }

    private static void layStartsAnew() {
        check.promise("5 lay");
        BackwardsLine x = laid("p0,0,0;p0,0,0;b1,7;", 1);
        x.keep();
        x.see(0, 1, true);
        x.leave(0);
        due("lay()", x.lay(), 2);
        for (int what = 1; what <= 8; what++) {
            due("count(" + what + ")", x.count(what), 0);
        }
        due("person(1, 3)", x.person(1, 3), 0);
        due("person(1, 6)", x.person(1, 6), NONE);
        due("undo()", x.undo(), NO);
        due("back()", x.back(), NO);
        due("pass(1)", x.pass(1), 1);
        due("person(1, 7): the first loaf again", x.person(1, 7), 7);
    }

    private static void lastBakerAndRumourCount() {
        check.promise("5 lay");
        BackwardsLine x = laid("b1,1;r2;" + THREE + "b3,9;r3;", 2);
        line(x, 2, 1, 0);
        due("pass(1)", x.pass(1), 0);
        due("pass(1): in minute 3 by a rumour", x.pass(1), 1);
        line(x, 2, 1);
        due("person(0, 7)", x.person(0, 7), 9);
        BackwardsLine y = laid(THREE, 3); // without: every second minute, 20, no rumour
        line(y, 1, 0);
        due("person(2, 6)", y.person(2, 6), 2);
        due("person(2, 7)", y.person(2, 7), 20);
        due("pass(2)", y.pass(2), 2);
        due("person(1, 7)", y.person(1, 7), 19);
    }

    private static void person() {
        check.promise("6 person");
        BackwardsLine x = laid("p1,1,3;p0,1,0;p3,60,2;b2,8;", 4); // 1 joins on the side of the head of 0
        int[][] want = {
            {1, 1, 3, 3, NONE, 0, 2, 8}, {0, 1, 0, 1, 0, 3, NONE, NONE}, {3, 60, 2, 0, NONE, 0, NONE, NONE}};
        for (int p = 0; p < 3; p++) {
            for (int what = 0; what < 8; what++) {
                due("person(" + p + ", " + what + ")", x.person(p, what), want[p][what]);
            }
            due("person(" + p + ", -1)", x.person(p, -1), BAD);
            due("person(" + p + ", 8)", x.person(p, 8), BAD);
        }
        x.leave(1);
        due("person(1, 3)", x.person(1, 3), 2);
        due("person(1, 4)", x.person(1, 4), NONE);
        due("person(1, 5)", x.person(1, 5), 0);
        due("person(1, 6)", x.person(1, 6), NONE);
        due("person(1, 7)", x.person(1, 7), NONE);
        due("person(-1, 0)", x.person(-1, 0), BAD);
        due("person(3, 0)", x.person(3, 0), BAD);
        for (int far : FAR_OFF) {
            due("person(" + far + ", 0)", x.person(far, 0), BAD);
            due("person(0, " + far + ")", x.person(0, far), BAD);
        }
    }

    private static void at() {
        check.promise("7 at");
        BackwardsLine x = laid(THREE + "b9,5;", 2);
        line(x, 2, 1, 0);
        due("at(-1)", x.at(-1), BAD);
        due("at(9)", x.at(9), NONE);
        due("at(min)", x.at(Integer.MIN_VALUE), BAD);
        due("at(max)", x.at(Integer.MAX_VALUE), NONE);
    }

    private static void passJoins() {
        check.promise("8 pass: who comes");
        BackwardsLine x = laid("p0,0,0;p1,0,0;p0,0,0;b9,5;");
        due("pass(1)", x.pass(1), 1);
        line(x, 2, 0); // 1 had the loaf: he was at the tail, 2 next to him
        due("person(1, 6)", x.person(1, 6), 0);
        due("person(1, 7)", x.person(1, 7), 5);
        line(laid("p1,1,1;p0,1,1;b9,5;", 2), 1, 0);
        line(laid("p1,1,0;p0,1,0;b9,5;", 2), 0, 1);
        line(laid("p1,1,1;p0,1,2;b9,5;", 2), 0, 1);
        line(laid("p1,1,1;p0,1,0;b9,5;", 2), 0, 1);
        line(laid("p1,1,0;p0,1,1;b9,5;", 2), 0, 1);
        line(laid("p1,1,0;p0,1,1;p0,1,1;b9,5;", 2), 0, 2, 1);
        line(laid("p1,1,0;p1,1,0;p1,2,0;b9,5;", 3), 0, 2, 1);
        line(laid("p0,2,0;p0,1,0;b9,5;", 3), 0, 1);
        line(laid("p0,2,0;p0,1,0;b9,5;", 2), 1);
        due("pass(0)", x.pass(0), BAD);
        due("pass(31)", x.pass(31), BAD);
        for (int far : FAR_OFF) {
            due("pass(" + far + ")", x.pass(far), BAD);
        }
        due("count(1)", x.count(1), 1);
        due("pass(30)", x.pass(30), 3);
        due("count(1)", x.count(1), 31);
    }

    private static void passSneezes() {
        check.promise("8 pass: who sneezes");
        BackwardsLine x = laid("p2,1,0;p2,1,0;p0,1,0;b9,5;", 5);
        line(x, 2, 1, 0);
        due("person(1, 5)", x.person(1, 5), 4);
        x.pass(1); // 0 sneezes and stays at the head, then 1 stands there
        line(x, 2, 0, 1);
        due("person(0, 5)", x.person(0, 5), 1);
        due("person(1, 5)", x.person(1, 5), 1);
        due("person(2, 5)", x.person(2, 5), 5);
        BackwardsLine y = laid("p0,1,0;p2,1,0;b5,5;", 5);
        line(y, 1, 0);
        due("pass(1): he sneezes ahead of the loaf", y.pass(1), 1);
        line(y, 1);
        due("person(1, 5)", y.person(1, 5), 1);
    }

    private static void passGives() {
        check.promise("8 pass: who eats");
        BackwardsLine x = laid("p0,1,0;p3,1,0;b2,3;", 1);
        due("count(5): nobody stood there", x.count(5), 0);
        due("pass(2)", x.pass(2), 1);
        line(x, 1);
        due("person(0, 7)", x.person(0, 7), 3);
        due("pass(2)", x.pass(2), 2);
        due("person(1, 6)", x.person(1, 6), 4);
        due("person(1, 7)", x.person(1, 7), 2);
        BackwardsLine y = laid("p3,1,0;p3,1,0;p3,1,0;b2,1;r4;", 3);
        line(y, 1, 0);
        due("pass(2): by a rumour, all proud", y.pass(2), 2);
        line(y, 1);
        due("pass(2)", y.pass(2), 3);
        due("person(2, 7)", y.person(2, 7), 1);
        due("person(0, 7)", y.person(0, 7), 0);
        due("person(1, 7): no less than 0", y.person(1, 7), 0);
        BackwardsLine z = laid("p3,1,0;p0,1,0;p0,1,0;p3,1,0;b2,9;r2;", 3);
        line(z, 3, 2, 0); // by a rumour the one nearest to the head that is not proud
    }

    private static void nineInLine() {
        check.promise("8 to 12 with nine in the line");
        String nine = "p3,1,0;p0,1,0;p0,1,0;p0,1,0;p0,1,0;p0,1,0;p0,1,0;p0,1,0;p3,1,0;";
        BackwardsLine x = laid(nine + "b2,9;", 2);
        line(x, 8, 7, 6, 5, 4, 3, 2, 1, 0);
        due("giveUp(8)", x.giveUp(8), 1);
        due("giveUp(0)", x.giveUp(0), NO);
        due("giveUp(1)", x.giveUp(1), 8);
        line(x, 7, 8, 6, 5, 4, 3, 2, 0, 1);
        due("sneeze(7)", x.sneeze(7), 9);
        line(x, 8, 6, 5, 4, 3, 2, 0, 1, 7);
        due("leave(3)", x.leave(3), 8);
        due("again(3)", x.again(3), 0);
        line(x, 3, 8, 6, 5, 4, 2, 0, 1, 7);
        due("undo()", x.undo(), 5);
        due("undo()", x.undo(), 4);
        due("pass(1): 8 at the tail is proud", x.pass(1), 1);
        line(x, 8, 5, 4, 3, 2, 0, 1, 7);
        due("behind(0, 7)", x.behind(0, 7), 7);
        due("behind(0, 8)", x.behind(0, 8), NONE);
        BackwardsLine y = laid(nine + "b2,9;r2;", 2);
        due("behind(0, 8)", y.behind(0, 8), 0);
        due("pass(1): 0 at the head is proud", y.pass(1), 1);
        line(y, 8, 7, 6, 5, 4, 3, 2, 0);
    }

    private static void giveUp() {
        check.promise("9 giveUp");
        BackwardsLine x = laid("p0,1,0;p0,2,0;p0,3,0;p0,50,0;b9,5;", 4);
        line(x, 2, 1, 0);
        due("giveUp(2)", x.giveUp(2), 1);
        line(x, 1, 2, 0);
        due("person(2, 5)", x.person(2, 5), 1);
        due("person(1, 5)", x.person(1, 5), 2);
        due("giveUp(2)", x.giveUp(2), 2);
        line(x, 1, 0, 2);
        due("giveUp(2) at the head", x.giveUp(2), NO);
        due("giveUp(3), not come", x.giveUp(3), NO);
        due("giveUp(4)", x.giveUp(4), BAD);
        due("giveUp(-1)", x.giveUp(-1), BAD);
        x.leave(1);
        due("giveUp(1), away", x.giveUp(1), NO);
        x.pass(6);
        due("person(0, 3)", x.person(0, 3), 3);
        due("giveUp(0), eaten", x.giveUp(0), NO);
        due("count(7)", x.count(7), 5);
    }

    private static void sneeze() {
        check.promise("10 sneeze");
        BackwardsLine x = laid("p0,1,0;p0,1,0;p0,1,0;p2,50,0;b9,5;", 4);
        due("sneeze(1)", x.sneeze(1), 3);
        line(x, 2, 0, 1);
        due("person(1, 5)", x.person(1, 5), 0);
        due("person(2, 5)", x.person(2, 5), 3);
        due("sneeze(1) at the head", x.sneeze(1), 3);
        line(x, 2, 0, 1);
        due("sneeze(2)", x.sneeze(2), 3);
        line(x, 0, 1, 2);
        due("sneeze(3), not come", x.sneeze(3), NO);
        due("sneeze(4)", x.sneeze(4), BAD);
        due("sneeze(-1)", x.sneeze(-1), BAD);
        x.leave(0);
        due("sneeze(0), away", x.sneeze(0), NO);
        x.pass(6);
        due("sneeze(1), eaten", x.sneeze(1), NO);
        due("count(7)", x.count(7), 6);
    }

    private static void leave() {
        check.promise("11 leave");
        BackwardsLine x = laid("p0,1,0;p0,1,0;p0,1,0;p2,50,0;b9,5;", 4);
        due("leave(1)", x.leave(1), 2);
        line(x, 2, 0);
        due("person(1, 3)", x.person(1, 3), 2);
        due("person(1, 5)", x.person(1, 5), 0);
        due("count(3)", x.count(3), 1);
        due("leave(1), away", x.leave(1), NO);
        due("leave(3), not come", x.leave(3), NO);
        due("leave(4)", x.leave(4), BAD);
        due("leave(-1)", x.leave(-1), BAD);
        x.pass(6);
        due("leave(2), eaten", x.leave(2), NO);
        due("leave(0)", x.leave(0), 0);
        due("pass(30)", x.pass(30), 1);
        due("count(5): nobody stands there", x.count(5), 1);
    }

    private static void again() {
        check.promise("12 again");
        BackwardsLine x = laid("p1,1,0;p0,1,0;p0,50,0;b9,5;", 3);
        line(x, 0, 1);
        due("leave(1)", x.leave(1), 1);
        due("pass(1)", x.pass(1), 0);
        due("again(1): next to the polite one", x.again(1), 1);
        line(x, 0, 1);
        due("person(1, 5)", x.person(1, 5), 0);
        due("leave(0)", x.leave(0), 1);
        due("again(0)", x.again(0), 0);
        line(x, 0, 1);
        due("again(0), in the line", x.again(0), NO);
        due("again(2), not come", x.again(2), NO);
        due("again(3)", x.again(3), BAD);
        due("again(-1)", x.again(-1), BAD);
        x.pass(6);
        due("again(0), eaten", x.again(0), NO);
        line(x, 1);
        due("leave(1)", x.leave(1), 0);
        due("again(1)", x.again(1), 0);
        line(x, 1);
    }

    private static void undo() {
        check.promise("13 undo");
        BackwardsLine x = laid(THREE + "b2,9;");
        due("undo()", x.undo(), NO);
        due("pass(5)", x.pass(5), 2);
        due("undo(): all minutes of one time", x.undo(), 0);
        due("count(1)", x.count(1), 0);
        due("count(5)", x.count(5), 0);
        due("person(2, 3)", x.person(2, 3), 0);
        due("person(2, 6)", x.person(2, 6), NONE);
        for (int i = 1; i <= 9; i++) {
            x.pass(1);
            due("count(7)", x.count(7), Math.min(i, 8));
        }
        x.giveUp(0); // NO: is nothing to be undone
        for (int left = 7; left >= 0; left--) {
            due("undo()", x.undo(), left);
        }
        due("undo() of the ninth last", x.undo(), NO);
        due("count(1)", x.count(1), 1);
        due("warmth(2)", x.warmth(2), 9);
    }

    private static void undoOfEach() {
        check.promise("13 undo");
        BackwardsLine x = laid("p0,1,0;p0,2,0;p0,3,0;b9,5;", 4);
        x.giveUp(2);
        x.sneeze(1);
        x.leave(0);
        x.see(0, 1, true);
        x.again(0);
        line(x, 0, 2, 1);
        due("undo() of again", x.undo(), 4);
        line(x, 2, 1);
        due("person(0, 3)", x.person(0, 3), 2);
        due("undo() of leave", x.undo(), 3);
        line(x, 2, 0, 1);
        due("person(0, 5)", x.person(0, 5), 3);
        due("person(1, 5)", x.person(1, 5), 0);
        due("undo() of sneeze", x.undo(), 2);
        line(x, 1, 2, 0);
        due("person(1, 5)", x.person(1, 5), 2);
        due("undo() of giveUp", x.undo(), 1);
        line(x, 2, 1, 0);
        due("count(6): SEEN stays", x.count(6), 1);
        due("undo() of pass", x.undo(), 0);
        due("undo()", x.undo(), NO);
    }

    private static void behind() {
        check.promise("14 behind");
        BackwardsLine x = laid(THREE + "b1,9;r2;");
        int[] many = {0, 0, 2, 1, 0};
        for (int n = 0; n < many.length; n++) {
            due("behind(" + n + ", -1)", x.behind(n, -1), many[n]);
        }
        due("behind(2, 0)", x.behind(2, 0), 1);
        due("behind(2, 1)", x.behind(2, 1), 0);
        due("behind(2, 2)", x.behind(2, 2), NONE);
        due("behind(2, 8)", x.behind(2, 8), NONE);
        due("behind(3, 0)", x.behind(3, 0), 1);
        due("behind(60, -1)", x.behind(60, -1), 0);
        due("behind(-1, 0)", x.behind(-1, 0), BAD);
        due("behind(61, 0)", x.behind(61, 0), BAD);
        due("behind(0, -2)", x.behind(0, -2), BAD);
        due("behind(0, 9)", x.behind(0, 9), BAD);
        for (int far : FAR_OFF) {
            due("behind(" + far + ", 0)", x.behind(far, 0), BAD);
            due("behind(0, " + far + ")", x.behind(0, far), BAD);
        }
        due("count(1): nothing changes", x.count(1), 0);
        due("count(7)", x.count(7), 0);
    }

    private static void when() {
        check.promise("15 when");
        BackwardsLine x = laid("p3,1,0;p3,1,0;p3,1,0;b2,1;r4;");
        due("when(2)", x.when(2), 3);
        due("when(0)", x.when(0), 5);
        due("when(1)", x.when(1), 7);
        x.pass(3);
        due("when(2), eaten", x.when(2), NO);
        due("when(0)", x.when(0), 2);
        x.leave(1);
        due("when(1), away", x.when(1), NONE);
        due("when(3)", x.when(3), BAD);
        due("when(-1)", x.when(-1), BAD);
        due("when(0) with one away", x.when(0), 2);
        BackwardsLine y = laid("p0,99,0;p0,98,0;b1,1;");
        due("when(1)", y.when(1), 99);
        due("when(0)", y.when(0), NONE);
        y.pass(1);
        due("when(0)", y.when(0), 99);
        due("when(1)", y.when(1), 98);
    }

    private static void pays() {
        check.promise("16 pays");
        due("pays() of an empty line", laid(THREE).pays(), 0);
        due("pays()", laid(THREE + "p0,50,0;b2,9;", 2).pays(), 0b011);
        due("pays() ahead of rumours", laid(THREE + "b2,9;r2;", 2).pays(), 0);
        // 0 and 1 stand, 0 polite at the tail: 1 would come to his side of the head again
        due("pays() by a polite one", laid("p1,1,0;p0,1,0;b2,9;", 2).pays(), 0);
        // of one family he would come to the tail; 1 stands there: 0 pays
        due("pays() in a family", laid("p1,1,1;p0,1,1;b2,9;", 2).pays(), 0b01);
        BackwardsLine x = laid(THREE + "b2,9;", 2);
        x.leave(0);
        due("pays() with one away", x.pays(), 0b010);
        due("count(3)", x.count(3), 1);
        line(x, 2, 1);
    }

    private static void gains() {
        check.promise("17 gains");
        due("gains() of an empty line", laid(THREE).gains(), 0);
        due("gains()", laid(THREE + "b2,9;", 2).gains(), 0);
        BackwardsLine x = laid(THREE + "p0,50,0;b2,9;r2;", 2);
        due("gains() ahead of rumours", x.gains(), 0b110);
        x.leave(1);
        due("gains() with one away", x.gains(), 0b100);
        line(x, 2, 0);
        due("person(2, 5)", x.person(2, 5), 1);
    }

    private static void besides() {
        check.promise("18 besides");
        BackwardsLine x = laid(THREE + "b2,9;", 2);
        due("besides(2)", x.besides(2), 1);
        due("besides(0)", x.besides(0), 1);
        due("besides(1)", x.besides(1), 3);
        BackwardsLine proud = laid("p3,1,0;p0,1,0;p0,1,0;b2,9;", 2);
        due("besides(1)", proud.besides(1), 1);
        due("besides(0)", proud.besides(0), 3);
        BackwardsLine told = laid("p3,1,0;p0,1,0;p3,1,0;b2,9;r2;", 2);
        due("besides(2) by a rumour", told.besides(2), 1);
        due("besides(0) by a rumour", told.besides(0), 3);
        BackwardsLine quiet = laid("p3,1,0;p0,1,0;p3,1,0;b2,9;", 2);
        due("besides(0)", quiet.besides(0), 1);
        due("besides(2)", quiet.besides(2), 3);
        x.pass(1);
        due("besides(2), eaten", x.besides(2), NO);
        x.leave(1);
        due("besides(1), away", x.besides(1), NONE);
        due("besides(3)", x.besides(3), BAD);
        due("besides(-1)", x.besides(-1), BAD);
        line(x, 0);
        due("besides(0), too late", laid("p0,99,0;b1,1;").besides(0), NONE);
        due("besides(0)", laid("p0,98,0;b1,1;").besides(0), 99);
    }

    private static void family() {
        check.promise("19 family");
        BackwardsLine x = laid("p3,50,1;p0,50,1;p0,50,1;p0,50,2;b3,9;");
        // 1 eats in minute 0, 2 (come in 1) in minute 3, as 0 (come in 2) is proud, and 0 in minute 6
        int[] want = {4, 1, 2, 0, NONE, NONE};
        for (int k = 0; k < want.length; k++) {
            due("family(1, " + k + ")", x.family(1, k), want[k]);
        }
        due("family(2, 0)", x.family(2, 0), 0);
        due("family(2, 1)", x.family(2, 1), 3);
        due("family(2, 2)", x.family(2, 2), NONE);
        due("family(3, 0)", x.family(3, 0), NO);
        due("family(4, 5)", x.family(4, 5), NO);
        due("family(0, 0)", x.family(0, 0), BAD);
        due("family(5, 0)", x.family(5, 0), BAD);
        due("family(3, -1)", x.family(3, -1), BAD);
        due("family(3, 6)", x.family(3, 6), BAD);
        for (int far : FAR_OFF) {
            due("family(" + far + ", 0)", x.family(far, 0), BAD);
            due("family(1, " + far + ")", x.family(1, far), BAD);
        }
        due("person(0, 1): nothing changes", x.person(0, 1), 50);
        due("count(1)", x.count(1), 0);
    }

    private static void familyLater() {
        check.promise("19 family");
        BackwardsLine x = laid("p3,50,1;p0,50,1;p0,50,1;b3,9;", 1);
        // they come in 1, 2, 3: 2 eats in 3, 1 in 6, 0 in 9
        int[] want = {6, 1, 2, 0, NONE};
        for (int k = 0; k < want.length; k++) {
            due("family(1, " + k + ")", x.family(1, k), want[k]);
        }
        BackwardsLine y = laid("p0,50,1;p3,50,1;b2,9;");
        due("family(1, 0)", y.family(1, 0), 1);
        due("family(1, 1): of several the first", y.family(1, 1), 0);
        due("family(1, 2)", y.family(1, 2), 1);
        BackwardsLine z = laid("p0,1,1;p0,9,1;b9,9;", 2);
        due("family(1, 0): 0 has come", z.family(1, 0), 7);
        due("family(1, 1)", z.family(1, 1), 1);
        due("family(1, 2)", z.family(1, 2), NONE);
        z.pass(8);
        due("family(1, 0): all have come", z.family(1, 0), NO);
        BackwardsLine five = laid("p0,9,4;p0,9,4;p0,9,4;p0,9,4;p0,9,4;b1,9;");
        for (int k = 1; k <= 5; k++) {
            due("family(4, " + k + ")", five.family(4, k), k - 1);
        }
        due("family(4, 0)", five.family(4, 0), 0);
    }

    private static void warmth() {
        check.promise("20 warmth");
        BackwardsLine x = laid(THREE + "b1,9;");
        int[] want = {0, 0, 9, 17, 24, 24};
        for (int n = 0; n < want.length; n++) {
            due("warmth(" + n + ")", x.warmth(n), want[n]);
        }
        due("warmth(60)", x.warmth(60), 24);
        due("warmth(61)", x.warmth(61), BAD);
        due("warmth(-1)", x.warmth(-1), BAD);
        for (int far : FAR_OFF) {
            due("warmth(" + far + ")", x.warmth(far), BAD);
        }
        x.pass(2);
        due("warmth(2)", x.warmth(2), 15);
        due("warmth(0)", x.warmth(0), 0);
        due("warmth(60) of cold loaves", laid(THREE + "b1,1;").warmth(60), 1);
        due("count(5): nothing changes", x.count(5), 1);
    }

    private static void see() {
        check.promise("21 see");
        BackwardsLine x = laid(THREE);
        due("see(3, 1, true)", x.see(3, 1, true), BAD);
        due("see(-1, 1, true)", x.see(-1, 1, true), BAD);
        due("see(0, 0, true)", x.see(0, 0, true), BAD);
        due("see(0, 61, true)", x.see(0, 61, true), BAD);
        due("see(0, 1, true)", x.see(0, 1, true), 1);
        due("see(0, 60, false)", x.see(0, 60, false), 2);
        for (int i = 3; i <= 6; i++) {
            due("see(2, 5, false)", x.see(2, 5, false), i);
        }
        due("see(0, 1, true)", x.see(0, 1, true), FULL);
        due("see(0, 61, true) with all seen", x.see(0, 61, true), BAD);
        due("count(6)", x.count(6), 6);
    }

    private static void forget() {
        check.promise("22 forget");
        BackwardsLine x = laid(THREE + "b2,9;", 2);
        due("forget()", x.forget(), 0);
        x.see(0, 1, true);
        x.see(1, 1, true);
        due("sneezed()", x.sneezed(), 0);
        due("forget()", x.forget(), 2);
        due("forget()", x.forget(), 0);
        due("count(6)", x.count(6), 0);
        due("sneezed(): nothing is seen", x.sneezed(), 512 + 0b111);
        due("kinds(0)", x.kinds(0), 0b1111);
    }

    private static void sneezed() {
        check.promise("23 sneezed");
        BackwardsLine x = laid(THREE + "p0,50,0;b2,9;", 2); // 2, 1, 0 eat behind 1, 3, 5 minutes
        x.see(2, 1, true);
        due("sneezed()", x.sneezed(), 512 + 0b011);
        x.see(1, 2, false);
        x.see(1, 3, true);
        due("sneezed(): 1 would eat behind 5, 3 by 0", x.sneezed(), 512 + 0b001);
        x.forget();
        x.see(1, 2, true);
        due("sneezed()", x.sneezed(), 0b100);
        x.leave(0);
        due("sneezed() with one away", x.sneezed(), 0b100);
        x.see(0, 60, false);
        due("sneezed()", x.sneezed(), 0b100);
        x.see(0, 60, true);
        due("sneezed()", x.sneezed(), 0);
        line(x, 2, 1);
        due("sneezed() of an empty line", laid(THREE).sneezed(), 512);
    }

    private static void seenFromWhenItIsAsked() {
        check.promise("23 sneezed");
        BackwardsLine x = laid(THREE + "b2,9;", 2);
        x.see(1, 2, false);
        due("sneezed(): not if 2 sneezes", x.sneezed(), 512 + 0b011);
        x.pass(1);
        due("sneezed(): 1 eats behind 2 now, unless he sneezes", x.sneezed(), 0b010);
        x.forget();
        x.see(2, 1, true);
        due("sneezed(): 2 has eaten", x.sneezed(), 512 + 0b011);
        x.see(2, 1, false);
        due("sneezed()", x.sneezed(), 0);
    }

    private static void kinds() {
        check.promise("24 kinds");
        BackwardsLine x = laid(THREE + "b2,9;", 2);
        due("kinds(0)", x.kinds(0), 0b1111);
        x.see(2, 1, true);
        due("kinds(2)", x.kinds(2), 0b0111);
        x.forget();
        x.see(1, 2, true);
        due("kinds(2)", x.kinds(2), 0b1000);
        due("kinds(1)", x.kinds(1), 0);
        due("kinds(3)", x.kinds(3), BAD);
        due("kinds(-1)", x.kinds(-1), BAD);
        due("person(2, 0): nothing changes", x.person(2, 0), 0);
        // behind four minutes 1 stands at the tail; as a sneezer he would go to the head ahead of the loaf
        BackwardsLine y = laid("p0,1,0;p0,1,0;b5,9;", 5);
        y.see(0, 1, true);
        due("kinds(1)", y.kinds(1), 0b1100);
        due("kinds(0)", y.kinds(0), 0);
        // 1 comes in minute 4, when the baker gives: as a polite one 0 lets him stand nearer to the head
        BackwardsLine z = laid("p0,1,0;p0,4,0;b4,9;", 4);
        z.see(0, 1, true);
        due("kinds(0)", z.kinds(0), 0b0010);
        due("kinds(1)", z.kinds(1), 0b1000);
    }

    private static void rumours() {
        check.promise("25 rumours");
        BackwardsLine x = laid(THREE + "b1,9;", 1);
        chance(x, 2, 0, 3, 0, 1);
        chance(x, 2, 1, 3, 7, 10);
        chance(x, 0, 1, 3, 3, 10);
        chance(x, 1, 1, 3, 0, 1);
        chance(x, 1, 2, 3, 29, 50); // 7 times 7 and 3 times 3, of 100
        chance(x, 1, 3, 3, 1, 1);
        chance(x, 1, 8, 3, 1, 1);
        chance(x, 2, 1, 5, 1, 2);
        chance(x, 2, 1, 0, 1, 1);
        chance(x, 2, 1, 10, 0, 1);
        chance(x, 0, 1, 10, 1, 1);
        due("rumours(3, 1, 1, 0)", x.rumours(3, 1, 1, 0), BAD);
        due("rumours(-1, 1, 1, 0)", x.rumours(-1, 1, 1, 0), BAD);
        due("rumours(0, -1, 1, 0)", x.rumours(0, -1, 1, 0), BAD);
        due("rumours(0, 9, 1, 0)", x.rumours(0, 9, 1, 0), BAD);
        due("rumours(0, 1, -1, 0)", x.rumours(0, 1, -1, 0), BAD);
        due("rumours(0, 1, 11, 0)", x.rumours(0, 1, 11, 0), BAD);
        due("rumours(0, 1, 1, -1)", x.rumours(0, 1, 1, -1), BAD);
        due("rumours(0, 1, 1, 2)", x.rumours(0, 1, 1, 2), BAD);
        due("count(1): nothing changes", x.count(1), 1);
    }

    private static void rumoursWhateverIsTold() {
        check.promise("25 rumours");
        BackwardsLine x = laid(THREE + "b2,9;r2;", 2); // told or not: minute 2 gives, 3 does not
        chance(x, 2, 2, 0, 1, 1);
        chance(x, 2, 2, 1, 9, 10);
        x.pass(1);
        chance(x, 0, 0, 0, 1, 1); // has eaten
        chance(x, 0, 8, 4, 1, 1);
        x.leave(1);
        chance(x, 1, 8, 4, 0, 1);
        // nine in line, a loaf a minute: the last at the head eats within 8 by no rumour or more: 1 - 0.9^8
        BackwardsLine y = laid("p0,1,0;p0,1,0;p0,1,0;p0,1,0;p0,1,0;p0,1,0;p0,1,0;p0,1,0;p0,1,0;b1,9;", 1);
        chance(y, 0, 8, 1, 100000000 - 43046721, 100000000);
        chance(y, 8, 8, 9, 100000000 - 43046721, 100000000);
    }

    private static void day() {
        check.promise("26 day");
        // z 0: ahead of k 1 DRAW is 41487, he leaves; of k 7 9148, he comes again; k 8 is minute 10, he eats
        BackwardsLine x = laid("p0,1,0;b5,9;", 2);
        due("when(0) as it is", x.when(0), 4);
        due("day(0, 1, 0)", x.day(0, 1, 0), 0);
        due("day(0, 4, 0): he is away", x.day(0, 4, 0), 0);
        due("day(0, 8, 0)", x.day(0, 8, 0), 0);
        due("day(0, 8, 1)", x.day(0, 8, 1), 0);
        due("day(0, 9, 0)", x.day(0, 9, 0), 1);
        due("day(0, 9, 1)", x.day(0, 9, 1), 9);
        due("day(0, 60, 0)", x.day(0, 60, 0), 1);
        line(x, 0);
        due("count(1): nothing changes", x.count(1), 2);
        due("count(7)", x.count(7), 1);
        due("day(-1, 1, 0)", x.day(-1, 1, 0), BAD);
        due("day(10000, 1, 0)", x.day(10000, 1, 0), BAD);
        due("day(0, 0, 0)", x.day(0, 0, 0), BAD);
        due("day(0, 61, 0)", x.day(0, 61, 0), BAD);
        due("day(0, 1, -1)", x.day(0, 1, -1), BAD);
        due("day(0, 1, 2)", x.day(0, 1, 2), BAD);
        // z 9999: DRAW is 51303, 32612, 6768, 39292: he leaves, comes again, leaves ahead of minute 5
        due("day(9999, 4, 0)", x.day(9999, 4, 0), 0);
        x.pass(4);
        due("day(0, 1, 0): he had eaten", x.day(0, 1, 0), 1);
        due("day(0, 1, 1): that loaf was ahead of it", x.day(0, 1, 1), 0);
    }

    private static void keepAndBack() {
        check.promise("27 keep, 28 back");
        BackwardsLine x = laid(THREE + "b2,9;", 2);
        due("back()", x.back(), NO);
        due("keep()", x.keep(), 1);
        due("count(7): still to be undone", x.count(7), 1);
        x.pass(1);
        x.leave(0);
        due("keep()", x.keep(), 2);
        due("keep()", x.keep(), FULL);
        due("count(8)", x.count(8), 2);
        x.again(0);
        x.pass(5);
        x.see(0, 1, true);
        x.write('z');
        int letters = x.count(9);
        due("back()", x.back(), 1);
        line(x, 1);
        due("person(0, 3)", x.person(0, 3), 2);
        due("person(2, 6)", x.person(2, 6), 2);
        due("count(1)", x.count(1), 3);
        due("count(5)", x.count(5), 1);
        due("count(6): SEEN stays", x.count(6), 1);
        due("count(9): THE TEXT stays", x.count(9), letters);
        due("count(7)", x.count(7), 0);
        due("undo()", x.undo(), NO);
        x.pass(1);
        due("undo()", x.undo(), 0);
        due("keep()", x.keep(), 2);
        due("back()", x.back(), 1);
        due("back()", x.back(), 0);
        line(x, 2, 1, 0);
        due("count(1)", x.count(1), 2);
        due("warmth(1)", x.warmth(1), 9);
        due("back()", x.back(), NO);
        due("count(8)", x.count(8), 0);
    }

    private static void count() {
        check.promise("29 count");
        BackwardsLine x = laid("p0,1,0;p0,1,0;p0,1,0;p0,1,0;p0,50,0;b1,9;", 3);
        x.leave(0);
        x.see(0, 1, true);
        x.see(0, 1, true);
        x.keep();
        int[] want = {5, 3, 1, 1, 2, 2, 2, 2, 1, 41};
        for (int what = 0; what < want.length; what++) {
            due("count(" + what + ")", x.count(what), want[what]);
        }
        due("count(-1)", x.count(-1), BAD);
        due("count(10)", x.count(10), BAD);
        for (int far : FAR_OFF) {
            due("count(" + far + ")", x.count(far), BAD);
        }
    }
}
