/** "What it is": each sentence on a TEXT and its ITEMS that names a boundary, at what is told last and what is not. */
public final class TextEdgesTest extends Bench {
    private static final String BAKER = "b1,0;"; // five letters, to fill a TEXT with

    public static void main(String[] args) {
        lettersAtMost();
        longestTextIsRead();
        longestTextCutShort();
        itemsOfNothing();
        itemsWithoutALetter();
        itemsWithAnotherLetter();
        secondFigures();
        itemsOneBehindTheOther();
        tooFewOrTooManyNumbers();
        oneOrTwoFigures();
        kinds();
        comings();
        whoComesFirstAndLast();
        families();
        fiveOfAFamily();
        noBoundOfNone();
        nineAtMost();
        bakers();
        bakerGivesModulo();
        warmths();
        warmthZeroAtLeast();
        withoutABaker();
        lastBakerCounts();
        rumours();
        rumourModulo();
        withoutARumour();
        lastRumourCounts();
        faultIsTheFirst();
        faultIsTheFirstLettersPlace();
        fiveHundredAndTwelveCalls();
        check.end("TextEdgesTest");
    }

    private static void fault(String text, int want) {
        BackwardsLine x = written(text);
        due("fault() of " + text, x.fault(), want);
        due("fault() of it once more", x.fault(), want);
        due("count(9) of " + text, x.count(9), text.length());
    }

    /** An ITEM as it is told or not, alone and behind others. */
    private static void item(String item, boolean told) {
        fault(item, told ? NONE : 0);
        fault("p3,7,2;" + item + "r2;", told ? NONE : 7);
    }

    private static void lettersAtMost() {
        check.promise("letters (200 at most)");
        BackwardsLine x = new BackwardsLine();
        for (int i = 1; i <= 200; i++) {
            due("write('b'), letter " + i, x.write('b'), i);
        }
        due("write('b'), letter 201", x.write('b'), FULL);
        due("write('b') once more", x.write('b'), FULL);
        due("count(9)", x.count(9), 200);
        due("wipe()", x.wipe(), 200);
        due("write('b') behind it", x.write('b'), 1);
    }

    private static void longestTextIsRead() {
        check.promise("letters (200 at most)");
        BackwardsLine x = written(BAKER.repeat(38) + "p2,5,4;r2;"); // 190, 7 and 3
        due("count(9)", x.count(9), 200);
        due("fault()", x.fault(), NONE);
        due("lay()", x.lay(), 1);
        due("person(0, 2)", x.person(0, 2), 4);
    }

    private static void longestTextCutShort() {
        check.promise("letters (200 at most)");
        String most = "p2,5,4;" + BAKER.repeat(38);
        fault(most + "r1;", 197);
        fault(most + "r30", 197);
        BackwardsLine x = written(most + "r30;"); // the ; does not come to stand in it
        due("count(9)", x.count(9), 200);
        due("fault()", x.fault(), 197);
        due("lay()", x.lay(), NO);
        fault("r2;".repeat(66), NONE); // as many ITEMS as can be
        fault("r2;".repeat(66) + "r2", 198);
        fault("r2;".repeat(3) + BAKER.repeat(38) + "p", 199); // the last place of all
        fault("r2;".repeat(3) + BAKER.repeat(38), NONE);
    }

    private static void itemsOfNothing() {
        check.promise("ITEMS one behind the other");
        fault("", NONE);
        fault(";", 0);
        fault(",", 0);
        fault("r2;;", 3);
        fault(";r2;", 0);
    }

    private static void itemsWithoutALetter() {
        check.promise("each a letter, then numbers parted by , and a ; behind the last one");
        for (String item : new String[] {"p1,2,3;", "b3,4;", "r5;"}) {
            item(item, true);
            for (int i = 0; i < item.length(); i++) {
                item(item.substring(0, i) + item.substring(i + 1), false);
                fault(item.substring(0, i), i == 0 ? NONE : 0);
            }
        }
    }

    /** Each letter there is at each place of an ITEM; told are those of the third text. */
    private static void otherLetters(String ahead, String behind, String told) {
        for (char c = 32; c <= 126; c++) {
            fault(ahead + c + behind, told.indexOf(c) >= 0 ? NONE : 0);
        }
    }

    private static void itemsWithAnotherLetter() {
        check.promise("each a letter, then numbers parted by , and a ; behind the last one");
        otherLetters("", "1,2,3;", "p");
        otherLetters("p", ",2,3;", "0123");
        otherLetters("p1", "2,3;", ",");
        otherLetters("p1,", ",3;", "0123456789");
        otherLetters("p1,2", "3;", ",");
        otherLetters("p1,2,", ";", "01234");
        otherLetters("p1,2,3", "", ";");
        otherLetters("", "3,4;", "b");
        otherLetters("b", ",4;", "123456789");
        otherLetters("b3", "4;", ",");
        otherLetters("b3,", ";", "0123456789");
        otherLetters("b3,4", "", ";");
        otherLetters("", "5;", "r");
        otherLetters("r", ";", "23456789");
        otherLetters("r5", "", ";");
    }

    /** As a second figure; with a ; there the ITEM is at its end, and the next one is not so. */
    private static void secondFigures() {
        check.promise("numbers (one or two figures)");
        String[] ahead = {"p0", "p1,2", "p1,2,0", "b0", "b3,3", "b3,4", "r2", "r3"};
        String[] behind = {",2,3;", ",3;", ";", ",4;", ";", ";", ";", ";"};
        String[] told = {"0123", "0123456789", "01234", "123456789", "0123456789", "0", "0123456789", "0"};
        for (int i = 0; i < ahead.length; i++) {
            for (char c = 32; c <= 126; c++) {
                int place = c == ';' && behind[i].equals(";") ? ahead[i].length() + 1 : 0;
                fault(ahead[i] + c + behind[i], told[i].indexOf(c) >= 0 ? NONE : place);
            }
        }
    }

    private static void itemsOneBehindTheOther() {
        check.promise("ITEMS one behind the other");
        fault("p0,0,0;b2,2;r2;p0,0,0;", NONE);
        for (char c = 32; c <= 126; c++) {
            fault("p0,0,0;" + c + "b2,2;", 7);
            fault("p0,0,0;b2,2;" + c, 12);
        }
    }

    private static void tooFewOrTooManyNumbers() {
        check.promise("pK,T,F bB,H rM");
        item("p;", false);
        item("p1;", false);
        item("p1,1;", false);
        item("p1,1,1;", true);
        item("p1,1,1,1;", false);
        item("p1,1,1,;", false);
        item("b;", false);
        item("b1;", false);
        item("b1,1;", true);
        item("b1,1,1;", false);
        item("r;", false);
        item("r2;", true);
        item("r2,2;", false);
    }

    private static void oneOrTwoFigures() {
        check.promise("numbers (one or two figures)");
        String[] ahead = {"p", "p1,", "p1,1,", "b", "b2,", "r"};
        String[] behind = {",1,1;", ",1;", ";", ",2;", ";", ";"};
        for (int i = 0; i < ahead.length; i++) {
            item(ahead[i] + behind[i], false);
            item(ahead[i] + "2" + behind[i], true);
            item(ahead[i] + "02" + behind[i], true);
            item(ahead[i] + "002" + behind[i], false);
            item(ahead[i] + "0002" + behind[i], false);
        }
    }

    /** Each number of one or two figures, and the least of three: told are those from low to high. */
    private static void numbers(String ahead, String behind, int low, int high) {
        for (int n = 0; n <= 100; n++) {
            boolean told = n <= 99 && in(n, low, high);
            item(ahead + n + behind, told);
            if (n <= 9) {
                item(ahead + "0" + n + behind, told);
            }
        }
    }

    private static void kinds() {
        check.promise("a PERSON of KIND K (0 PLAIN, 1 POLITE, 2 SNEEZER, 3 PROUD)");
        numbers("p", ",0,0;", 0, 3);
        for (int k = 0; k <= 3; k++) {
            due("person(0, 0) of p" + k, laid("p" + k + ",9,0;").person(0, 0), k);
            due("person(0, 0) of p0" + k, laid("p0" + k + ",9,0;").person(0, 0), k);
        }
    }

    private static void comings() {
        check.promise("who comes in minute T (0 to 99)");
        numbers("p0,", ",0;", 0, 99);
        for (int t = 0; t <= 99; t++) {
            due("person(0, 1) of p0," + t, laid("p0," + t + ",0;").person(0, 1), t);
        }
    }

    private static void whoComesFirstAndLast() {
        check.promise("who comes in minute T (0 to 99)");
        BackwardsLine x = laid("p0,0,0;p0,99,0;b1,9;");
        due("person(0, 3)", x.person(0, 3), 0);
        due("pass(1)", x.pass(1), 1);
        x.pass(30);
        x.pass(30);
        x.pass(30);
        due("pass(8)", x.pass(8), 1);
        due("count(1)", x.count(1), 99);
        due("person(1, 3)", x.person(1, 3), 0);
        due("pass(1)", x.pass(1), 2);
        due("person(1, 6)", x.person(1, 6), 99);
    }

    private static void families() {
        check.promise("of FAMILY F (0 to 4");
        numbers("p0,0,", ";", 0, 4);
        for (int f = 0; f <= 4; f++) {
            due("person(0, 2) of F " + f, laid("p0,9," + f + ";").person(0, 2), f);
        }
    }

    private static void fiveOfAFamily() {
        check.promise("5 of each other one at most");
        for (int f = 1; f <= 4; f++) {
            String one = "p0,0," + f + ";";
            String other = "p0,0," + (f == 4 ? 1 : f + 1) + ";";
            fault(one.repeat(5), NONE);
            fault(one.repeat(5) + other.repeat(4), NONE);
            fault(one.repeat(6), 35);
            fault(one.repeat(5) + other.repeat(3) + one, 56);
            fault(one + other.repeat(5) + "p0,0,0;" + other, 49);
            due("lay() of five", written(one.repeat(5)).lay(), 5);
            due("lay() of six", written(one.repeat(6)).lay(), NO);
        }
        fault("p0,0,1;p0,0,2;p0,0,3;p0,0,4;".repeat(2) + "p0,0,1;", NONE);
    }

    private static void noBoundOfNone() {
        check.promise("0: of none");
        fault("p0,0,0;".repeat(6), NONE);
        due("lay()", written("p0,0,0;".repeat(9)).lay(), 9);
    }

    private static void nineAtMost() {
        check.promise("9 at most, 0, 1, ..");
        fault("p1,1,0;".repeat(9), NONE);
        fault("p1,1,0;".repeat(10), 63);
        fault("p1,1,0;".repeat(9) + "b2,2;r2;", NONE);
        fault("p1,1,0;".repeat(9) + "b2,2;r2;p1,1,0;", 71);
        due("lay() of ten", written("p1,1,0;".repeat(10)).lay(), NO);
        BackwardsLine x = laid("p0,10,0;p0,11,0;p0,12,0;p0,13,0;p0,14,0;p0,15,0;p0,16,0;p0,17,0;p0,18,0;");
        for (int p = 0; p < 9; p++) {
            due("person(" + p + ", 1)", x.person(p, 1), 10 + p);
        }
        due("person(9, 1)", x.person(9, 1), BAD);
        due("count(0)", x.count(0), 9);
        BackwardsLine one = laid("p0,10,0;");
        due("count(0)", one.count(0), 1);
        due("person(0, 1)", one.person(0, 1), 10);
        due("person(1, 1)", one.person(1, 1), BAD);
    }

    private static void bakers() {
        check.promise("0 modulo B (1 to 9)");
        numbers("b", ",0;", 1, 9);
        check.promise("the first LOAF is H (0 to 40) warm");
        numbers("b2,", ";", 0, 40);
    }

    private static void bakerGivesModulo() {
        check.promise("the BAKER gives a LOAF in each minute that is 0 modulo B (1 to 9)");
        for (int b = 1; b <= 9; b++) {
            BackwardsLine x = laid("p0,0,0;p0,0,0;p0,0,0;b" + b + ",9;", 30);
            due("person(2, 6) by b" + b, x.person(2, 6), 0);
            due("person(1, 6) by b" + b, x.person(1, 6), b);
            due("person(0, 6) by b" + b, x.person(0, 6), 2 * b);
        }
    }

    private static void warmths() {
        check.promise("the first LOAF is H (0 to 40) warm, each further one 1 less");
        for (int h = 0; h <= 40; h++) {
            BackwardsLine x = laid("p0,0,0;p0,0,0;p0,0,0;b1," + h + ";", 3);
            for (int p = 0; p < 3; p++) {
                due("person(" + p + ", 7) by H " + h, x.person(p, 7), Math.max(0, h - 2 + p));
            }
        }
    }

    private static void warmthZeroAtLeast() {
        check.promise("each further one 1 less (0 at least)");
        BackwardsLine x = laid(NINE + "b1,2;", 10);
        int[] want = {0, 0, 0, 0, 0, 0, 0, 1, 2};
        for (int p = 0; p < 9; p++) {
            due("person(" + p + ", 7)", x.person(p, 7), want[p]);
        }
        due("warmth(60) of 0, 0, 0", laid(THREE + "b1,0;").warmth(60), 0);
        due("warmth(60) of 1, 0, 0", laid(THREE + "b1,1;").warmth(60), 1);
        due("warmth(60) of 2, 1, 0", laid(THREE + "b1,2;").warmth(60), 3);
    }

    private static void withoutABaker() {
        check.promise("(2, 20 without");
        BackwardsLine x = laid("p0,0,0;p0,0,0;p0,0,0;", 5);
        int[] minutes = {4, 2, 0};
        for (int p = 0; p < 3; p++) {
            due("person(" + p + ", 6)", x.person(p, 6), minutes[p]);
            due("person(" + p + ", 7)", x.person(p, 7), 18 + p);
        }
        BackwardsLine y = laid("p0,0,0;p0,0,0;p0,0,0;b5,7;r2;");
        y.wipe();
        letters(y, "p0,0,0;p0,0,0;p0,0,0;"); // nor does a baker of what was laid before count
        y.lay();
        y.pass(3);
        due("person(2, 7)", y.person(2, 7), 20);
        due("person(1, 6)", y.person(1, 6), 2);
        due("person(1, 7)", y.person(1, 7), 19);
    }

    private static void lastBakerCounts() {
        check.promise("of several such the last one counts");
        BackwardsLine x = laid("b1,5;b9,40;p0,0,0;b2,3;p0,0,0;b3,7;", 4);
        due("person(1, 7)", x.person(1, 7), 7);
        due("person(0, 6)", x.person(0, 6), 3);
        due("person(0, 7)", x.person(0, 7), 6);
        fault("b1,1;b0,1;b2,2;", 5); // but each is to be as told
        fault("b1,41;b2,2;", 0);
    }

    private static void rumours() {
        check.promise("in minutes that are 0 modulo M (2 to 30)");
        numbers("r", ";", 2, 30);
    }

    private static void rumourModulo() {
        check.promise("there is a RUMOUR in minutes that are 0 modulo M (2 to 30)");
        eaters(laid("p0,0,0;".repeat(9) + "b1,9;r2;"), 0, 8, 1, 7, 2, 6, 3, 5, 4);
        eaters(laid("p0,0,0;".repeat(9) + "b1,9;r3;"), 0, 8, 7, 1, 6, 5, 2, 4, 3);
        for (int m = 2; m <= 30; m++) {
            // in minute m - 1 the TAIL's side eats, in m the HEAD's but for the proud one, in m + 1 the TAIL's
            String four = "p3," + (m - 1) + ",0;p0," + (m - 1) + ",0;p0," + (m - 1) + ",0;p0," + (m - 1) + ",0;";
            BackwardsLine x = laid(four + "b1,9;r" + m + ";");
            due("when(3) by r" + m, x.when(3), m);
            due("when(1) by r" + m, x.when(1), m + 1);
            due("when(2) by r" + m, x.when(2), m + 2);
        }
    }

    private static void withoutARumour() {
        check.promise("(none without");
        eaters(laid("p0,0,0;".repeat(9) + "b1,9;"), 8, 7, 6, 5, 4, 3, 2, 1, 0);
        BackwardsLine x = laid(THREE + "b1,9;r2;");
        x.wipe();
        letters(x, THREE + "b1,9;"); // nor does a rumour of what was laid before count
        x.lay();
        eaters(x, NONE, 2, 1, 0);
    }

    private static void lastRumourCounts() {
        check.promise("of several such the last one counts");
        eaters(laid("r2;" + "p0,0,0;".repeat(6) + "b1,9;r30;r3;"), 0, 5, 4, 1, 3, 2);
        fault("r2;r31;r3;", 3);
        fault("r1;r2;", 0);
    }

    private static void faultIsTheFirst() {
        check.promise("FAULT: .. of the first ITEM that is not so");
        fault("p4,0,0;b0,0;r1;", 0);
        fault("p3,0,0;b0,0;r1;", 7);
        fault("p3,0,0;b1,0;r1;", 12);
        fault("p3,0,0;b1,0;r2;", NONE);
        fault("r1", 0);
        fault("r1;r2;", 0);
    }

    private static void faultIsTheFirstLettersPlace() {
        check.promise("the place (from 0 on) of the first letter of the first ITEM");
        fault("p0,0,9;", 0);
        fault("p0,0,0;p0,0,0:", 7);
        fault("p0,0,0;p0,0,0,", 7);
        fault("b9,40;b9,41;", 6);
        fault("r30;b9,40;p3,99,4;p3,99,5;", 18);
    }

    private static void fiveHundredAndTwelveCalls() {
        check.promise("An object is used for at most 512 calls");
        BackwardsLine x = new BackwardsLine();
        for (int i = 0; i < 509; i++) {
            x.pass(30);
        }
        due("count(1), call 510", x.count(1), 509 * 30);
        due("undo(), call 511", x.undo(), 7);
        due("count(1), call 512", x.count(1), 508 * 30);
    }
}
