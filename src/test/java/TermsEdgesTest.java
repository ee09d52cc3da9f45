import java.math.BigInteger;

/** "Terms": each sentence that names a boundary, at what is told last and at what is told no more. */
public final class TermsEdgesTest extends Bench {
    private static final String FIRST = "p0,0,0;p1,0,1;p0,1,1;p2,2,0;p0,3,2;p3,4,2;p1,6,0;p0,8,0;p2,9,1;b3,20;r7;";

    public static void main(String[] args) {
        laidOfAPersonAtLeast();
        laidAtFirst();
        nobodyHasComeAtFirst();
        minuteZeroIsTheFirst();
        whoComesZeroFirst();
        joinsAnEmptyLine();
        joinsByFamily();
        comesAgainByFamily();
        joinsOnlyTheTail();
        joinsAsTheNinth();
        sneezesFromFourOn();
        sneezesOnEnd();
        sneezesByFourOrMore();
        sneezesZeroFirst();
        sneezesInTheLineAlone();
        loafIfSomebodyStands();
        loafByPride();
        loafByPrideOfNine();
        eatenIsNotInTheLine();
        standsAMinuteMore();
        givesUpToTheHead();
        sneezesWhateverHisKind();
        leavesAndComesAgain();
        undoneAreEight();
        undoneRoundAndRound();
        undoneAtOneTime();
        behindSixty();
        whenNinetyNine();
        whenOfTheLast();
        paysSooner();
        paysAllBits();
        gainsSooner();
        gainsAllBits();
        besidesLikewise();
        besidesNinetyNine();
        familyOfThoseToCome();
        familyBehindALargerOne();
        familyNotWhenTheyWereTo();
        familyLastOrders();
        familyOfSeveralTheFirst();
        familyLongestWait();
        warmthSixty();
        seenAtMostSix();
        seenOneToSixty();
        seenWhenThatIsAsked();
        sneezedAllBits();
        sneezedWithNobody();
        kindsAllBits();
        kindsOfAnyone();
        rumoursOfNoMinutes();
        rumoursByTenths();
        rumoursOfEightMinutes();
        rumoursWhateverIsTold();
        dayOfSixty();
        dayOfOneToComeOrFed();
        dayByPersons();
        dayOfOne();
        dayAtTheHead();
        dayByDraws();
        keptAreTwo();
        keptRoundAndRound();
        keptIsWhichLoafWhen();
        keptIsAllButSeenAndText();
        check.end("TermsEdgesTest");
    }

    private static void laidOfAPersonAtLeast() {
        check.promise("LAID is a TEXT without FAULT, of a PERSON at least (NO else");
        due("lay() of nothing", written("").lay(), NO);
        due("lay() of a baker", written("b2,20;").lay(), NO);
        due("lay() of a rumour", written("r2;").lay(), NO);
        due("lay() of both", written("b2,20;r2;").lay(), NO);
        due("lay() of one", written("p0,0,0;").lay(), 1);
        due("lay() of one behind both", written("b2,20;r2;p0,0,0;").lay(), 1);
        due("lay() of nine", written("p0,0,0;".repeat(9)).lay(), 9);
        due("lay() with a FAULT behind one", written("p0,0,0;b").lay(), NO);
        due("lay() with a FAULT ahead of one", written(";p0,0,0;").lay(), NO);
    }

    private static void laidAtFirst() {
        check.promise("at first " + FIRST);
        for (int minutes = 0; minutes <= 30; minutes++) {
            BackwardsLine x = new BackwardsLine();
            BackwardsLine twin = laid(FIRST);
            twin.wipe();
            if (minutes > 0) {
                due("pass(" + minutes + ")", x.pass(minutes), twin.pass(minutes));
            }
            check.holds("as laid by the text, behind " + minutes, story(x).equals(story(twin)));
        }
    }

    private static void nobodyHasComeAtFirst() {
        check.promise("At first nobody has come, the LINE is empty");
        for (BackwardsLine x : new BackwardsLine[] {new BackwardsLine(), laid("p0,0,0;".repeat(9))}) {
            line(x);
            due("behind(0, -1)", x.behind(0, -1), 0);
            for (int p = 0; p < 9; p++) {
                due("person(" + p + ", 3)", x.person(p, 3), 0);
                due("person(" + p + ", 4)", x.person(p, 4), NONE);
                due("person(" + p + ", 5)", x.person(p, 5), 0);
                due("person(" + p + ", 6)", x.person(p, 6), NONE);
                due("person(" + p + ", 7)", x.person(p, 7), NONE);
            }
        }
        BackwardsLine y = laid(NINE, 4); // as laid anew, with nine in the LINE and who has EATEN
        y.leave(0);
        due("lay()", y.lay(), 9);
        line(y);
        due("count(3)", y.count(3), 0);
        due("count(4)", y.count(4), 0);
        due("pass(2)", y.pass(2), 0);
        line(y, 8, 7, 6, 5, 4, 3, 2, 1, 0);
        due("person(0, 5)", y.person(0, 5), 1);
    }

    private static void minuteZeroIsTheFirst() {
        check.promise("In a MINUTE (0 the first)");
        BackwardsLine x = laid("p0,0,0;p0,0,0;p0,1,0;b9,5;r30;");
        due("count(1)", x.count(1), 0);
        due("pass(1): 0 modulo 9 and modulo 30", x.pass(1), 1);
        due("person(0, 6)", x.person(0, 6), 0);
        line(x, 1);
        due("count(1)", x.count(1), 1);
        due("pass(1)", x.pass(1), 1);
        line(x, 2, 1);
    }

    private static void whoComesZeroFirst() {
        check.promise("Who comes in it, 0 first, JOINS: he stands at the TAIL");
        line(laid("p0,2,0;p0,1,0;p0,2,0;b9,5;", 2), 1);
        line(laid("p0,2,0;p0,1,0;p0,2,0;b9,5;", 3), 2, 0, 1);
        line(laid(NINE + "b9,5;", 2), 8, 7, 6, 5, 4, 3, 2, 1, 0);
    }

    private static void joinsAnEmptyLine() {
        check.promise("he stands at the TAIL");
        for (int kind = 0; kind <= 3; kind++) {
            line(laid("p" + kind + ",1,0;b9,5;", 2), 0);
            BackwardsLine x = laid("p" + kind + ",1,0;b9,5;", 2);
            x.leave(0);
            due("again(0)", x.again(0), 0);
            line(x, 0);
            line(laid("p" + kind + ",1,0;p0,3,0;b2,5;", 4), 1); // the one who stood there has EATEN
        }
    }

    private static void joinsByFamily() {
        check.promise("if a POLITE one stands there who is not of his FAMILY (of none: of nobody's), next to that one");
        for (int f = 0; f <= 4; f++) {
            for (int g = 0; g <= 4; g++) {
                for (int kind = 0; kind <= 3; kind++) {
                    BackwardsLine x = laid("p" + kind + ",1," + f + ";p" + kind + ",2," + g + ";b9,5;", 3);
                    boolean next = kind == 1 && (f != g || f == 0);
                    line(x, next ? 0 : 1, next ? 1 : 0);
                    BackwardsLine y = laid("p" + kind + ",2," + g + ";p" + kind + ",1," + f + ";b9,5;", 3);
                    line(y, next ? 1 : 0, next ? 0 : 1);
                }
            }
        }
    }

    private static void comesAgainByFamily() {
        check.promise("One AWAY comes AGAIN: he JOINS as above");
        for (int f = 0; f <= 4; f++) {
            for (int g = 0; g <= 4; g++) {
                BackwardsLine x = laid("p1,1," + f + ";p0,1," + g + ";p0,1," + g + ";b9,5;", 2);
                x.leave(2);
                boolean next = f != g || f == 0;
                int tail = next ? 0 : 1;
                due("at(0)", x.at(0), tail);
                due("again(2)", x.again(2), next ? 1 : 0);
                if (next) {
                    line(x, 0, 2, 1);
                } else {
                    line(x, 2, 1, 0);
                }
            }
        }
    }

    private static void joinsOnlyTheTail() {
        check.promise("if a POLITE one stands there");
        line(laid("p1,1,1;p0,2,1;p0,3,0;b9,5;", 4), 2, 1, 0); // the POLITE one stands at the HEAD alone
        line(laid("p1,1,0;p1,2,0;p1,3,0;b9,5;", 4), 0, 2, 1);
    }

    private static void joinsAsTheNinth() {
        check.promise("next to that one, on the side of the HEAD");
        String seven = "p0,1,0;".repeat(7);
        line(laid(seven + "p1,1,0;p0,1,0;b9,5;", 2), 7, 8, 6, 5, 4, 3, 2, 1, 0);
        line(laid(seven + "p1,1,3;p0,1,3;b9,5;", 2), 8, 7, 6, 5, 4, 3, 2, 1, 0);
    }

    private static void sneezesFromFourOn() {
        check.promise("that has stood for 4 minutes on end or more SNEEZES: he stands at the HEAD, for none yet");
        BackwardsLine x = laid("p0,1,0;p2,1,0;b9,5;", 4);
        due("person(1, 5)", x.person(1, 5), 3);
        due("pass(1): stood for 3", x.pass(1), 0);
        line(x, 1, 0);
        due("person(1, 5)", x.person(1, 5), 4);
        due("pass(1): stood for 4", x.pass(1), 0);
        line(x, 0, 1);
        due("person(1, 5)", x.person(1, 5), 1);
        due("person(0, 5)", x.person(0, 5), 5);
        BackwardsLine y = laid("p2,1,0;b9,5;", 5); // alone, at the HEAD as it is
        due("person(0, 5)", y.person(0, 5), 4);
        y.pass(1);
        due("person(0, 5)", y.person(0, 5), 1);
    }

    private static void sneezesOnEnd() {
        check.promise("for 4 minutes on end");
        BackwardsLine x = laid("p0,1,0;p2,1,0;b9,5;", 4);
        x.leave(1);
        x.again(1);
        due("person(1, 5)", x.person(1, 5), 0);
        x.pass(4);
        line(x, 1, 0);
        due("person(1, 5)", x.person(1, 5), 4);
        x.pass(1);
        line(x, 0, 1);
        BackwardsLine y = laid("p0,1,0;p2,1,0;b9,5;", 4);
        y.sneeze(1);
        y.pass(4);
        due("person(1, 5)", y.person(1, 5), 4);
        y.pass(1);
        due("person(1, 5)", y.person(1, 5), 1);
    }

    private static void sneezesByFourOrMore() {
        check.promise("for 4 minutes on end or more");
        for (int minutes = 4; minutes <= 9; minutes++) { // stood for 3, .. 8, when the baker gives by b4 to b9
            BackwardsLine x = laid("p0,1,0;p0,1,0;b" + minutes + ",5;", minutes);
            x.see(0, 1, true);
            due("kinds(1) behind " + minutes, x.kinds(1), minutes == 4 ? 0b1000 : 0b1100);
        }
    }

    private static void sneezesZeroFirst() {
        check.promise("Each SNEEZER in the LINE, 0 first");
        line(laid("p2,1,0;p2,1,0;p2,1,0;b9,5;", 5), 2, 1, 0);
        line(laid("p2,1,0;p2,1,0;p2,1,0;b9,5;", 6), 0, 1, 2);
        BackwardsLine x = laid("p2,1,0;".repeat(9) + "b9,5;", 5);
        line(x, 8, 7, 6, 5, 4, 3, 2, 1, 0);
        x.pass(1);
        line(x, 0, 1, 2, 3, 4, 5, 6, 7, 8);
    }

    private static void sneezesInTheLineAlone() {
        check.promise("Each SNEEZER in the LINE");
        BackwardsLine x = laid("p0,1,0;p2,1,0;p2,1,0;b9,5;", 5);
        x.leave(1);
        x.pass(2);
        line(x, 0, 2);
        due("person(1, 3)", x.person(1, 3), 2);
    }

    private static void loafIfSomebodyStands() {
        check.promise("and somebody stands in the LINE");
        BackwardsLine x = laid("p0,5,0;p0,7,0;b1,7;", 5);
        due("count(5)", x.count(5), 0);
        due("pass(1)", x.pass(1), 1);
        due("person(0, 7): the first LOAF", x.person(0, 7), 7);
        due("pass(2)", x.pass(2), 2);
        due("person(1, 7): the next one", x.person(1, 7), 6);
        BackwardsLine y = laid("p0,1,0;b2,7;", 2);
        y.leave(0);
        due("pass(9) with nobody but one AWAY", y.pass(9), 0);
        due("count(5)", y.count(5), 0);
    }

    private static void loafByPride() {
        check.promise("that is not PROUD; if all are PROUD, to the one nearest to it");
        for (int proud = 0; proud < 16; proud++) {
            StringBuilder text = new StringBuilder();
            int tail = 3;
            int head = 0;
            for (int p = 0; p < 4; p++) {
                text.append((proud >> p & 1) == 1 ? "p3,1,0;" : "p0,1,0;");
            }
            while (proud != 15 && (proud >> tail & 1) == 1) {
                tail--;
            }
            while (proud != 15 && (proud >> head & 1) == 1) {
                head++;
            }
            due("when(" + tail + ") of " + text, laid(text + "b2,5;", 2).when(tail), 1);
            due("when(" + head + ") of " + text + " by a RUMOUR", laid(text + "b2,5;r2;", 2).when(head), 1);
        }
    }

    private static void loafByPrideOfNine() {
        check.promise("that is not PROUD; if all are PROUD, to the one nearest to it");
        String proud = "p3,1,0;".repeat(8);
        due("when(0)", laid("p0,1,0;" + proud + "b2,5;", 2).when(0), 1);
        due("when(8) by a RUMOUR", laid(proud + "p0,1,0;b2,5;r2;", 2).when(8), 1);
        due("when(8), all PROUD", laid(proud + "p3,1,0;b2,5;", 2).when(8), 1);
        due("when(0), all PROUD, by a RUMOUR", laid(proud + "p3,1,0;b2,5;r2;", 2).when(0), 1);
    }

    private static void eatenIsNotInTheLine() {
        check.promise("He has EATEN, and is not in the LINE");
        BackwardsLine x = laid("p0,0,0;p0,1,0;b2,5;", 1);
        line(x);
        due("person(0, 3)", x.person(0, 3), 3);
        due("person(0, 4)", x.person(0, 4), NONE);
        due("person(0, 5)", x.person(0, 5), 0);
        x.pass(30);
        due("count(5): no second one for him", x.count(5), 2);
        due("person(0, 6)", x.person(0, 6), 0);
        due("person(0, 7)", x.person(0, 7), 5);
    }

    private static void standsAMinuteMore() {
        check.promise("Each in the LINE has stood a minute more on end");
        BackwardsLine x = laid("p0,1,0;p0,3,0;b9,5;");
        for (int minute = 0; minute < 9; minute++) {
            due("person(0, 5)", x.person(0, 5), Math.max(0, minute - 1));
            due("person(1, 5)", x.person(1, 5), Math.max(0, minute - 3));
            x.pass(1);
        }
        x.leave(0);
        x.pass(3);
        due("person(0, 5), AWAY", x.person(0, 5), 0);
    }

    private static void givesUpToTheHead() {
        check.promise("he and the next one on the side of the HEAD change places (not what they have stood)");
        BackwardsLine x = laid("p0,1,0;p0,2,0;p0,3,0;b9,5;", 4);
        due("giveUp(0) at the HEAD", x.giveUp(0), NO);
        due("giveUp(1) next to it", x.giveUp(1), 2);
        line(x, 2, 0, 1);
        due("giveUp(1) at the HEAD", x.giveUp(1), NO);
        due("giveUp(2) at the TAIL", x.giveUp(2), 1);
        line(x, 0, 2, 1);
        for (int p = 0; p < 3; p++) {
            due("person(" + p + ", 5)", x.person(p, 5), 3 - p);
        }
        due("giveUp(0) alone", laid("p0,1,0;b9,5;", 2).giveUp(0), NO);
        BackwardsLine nine = laid(NINE + "b9,5;", 2);
        for (int place = 1; place <= 8; place++) {
            due("giveUp(8) of nine", nine.giveUp(8), place);
        }
        due("giveUp(8) of nine, at the HEAD", nine.giveUp(8), NO);
        line(nine, 7, 6, 5, 4, 3, 2, 1, 0, 8);
    }

    private static void sneezesWhateverHisKind() {
        check.promise("he SNEEZES as above, whatever his KIND");
        for (int kind = 0; kind <= 3; kind++) {
            BackwardsLine x = laid("p0,1,0;p" + kind + ",1,0;p0,1,1;b9,5;", 2);
            due("sneeze(1)", x.sneeze(1), 3);
            due("at(2)", x.at(2), 1);
            due("person(1, 5)", x.person(1, 5), 0);
            due("sneeze(1) at the HEAD", x.sneeze(1), 3);
            due("at(2)", x.at(2), 1);
        }
        due("sneeze(0) alone", laid("p0,1,0;b9,5;", 2).sneeze(0), 1);
        BackwardsLine nine = laid(NINE + "b9,5;", 2);
        due("sneeze(8) of nine", nine.sneeze(8), 9);
        line(nine, 7, 6, 5, 4, 3, 2, 1, 0, 8);
    }

    private static void leavesAndComesAgain() {
        check.promise("he LEAVES: he is AWAY. One AWAY comes AGAIN: he JOINS as above, and has stood for none");
        BackwardsLine x = laid(NINE + "b9,5;", 2);
        for (int p = 0; p < 9; p++) {
            due("leave(" + p + ")", x.leave(p), 8 - p);
            due("count(3)", x.count(3), p + 1);
            due("person(" + p + ", 3)", x.person(p, 3), 2);
        }
        line(x);
        for (int p = 8; p >= 0; p--) {
            due("again(" + p + ")", x.again(p), 0);
            due("person(" + p + ", 5)", x.person(p, 5), 0);
        }
        line(x, 0, 1, 2, 3, 4, 5, 6, 7, 8);
        BackwardsLine y = laid("p0,3,0;p0,1,0;b9,5;", 4);
        y.leave(0);
        y.pass(5);
        due("person(0, 3): he comes by AGAIN alone", y.person(0, 3), 2);
    }

    private static void undoneAreEight() {
        check.promise("the last 8 can be");
        for (int passed = 0; passed <= 10; passed++) {
            BackwardsLine x = laid(THREE);
            for (int i = 0; i < passed; i++) {
                x.pass(1);
            }
            int can = Math.min(passed, 8);
            due("count(7) behind " + passed, x.count(7), can);
            for (int left = can - 1; left >= 0; left--) {
                due("undo()", x.undo(), left);
                due("count(1)", x.count(1), passed - can + left);
            }
            due("undo() with none left", x.undo(), NO);
            due("count(1)", x.count(1), passed - can);
        }
    }

    private static void undoneRoundAndRound() {
        check.promise("the last 8 can be");
        BackwardsLine x = laid(THREE);
        for (int i = 0; i < 11; i++) {
            x.pass(1);
        }
        due("undo()", x.undo(), 7);
        due("undo()", x.undo(), 6);
        due("undo()", x.undo(), 5);
        x.pass(2); // from 8 to 10
        x.pass(2); // to 12
        due("count(7)", x.count(7), 7);
        int[] minutes = {10, 8, 7, 6, 5, 4, 3};
        for (int i = 0; i < minutes.length; i++) {
            due("undo()", x.undo(), 6 - i);
            due("count(1)", x.count(1), minutes[i]);
        }
        due("undo()", x.undo(), NO);
    }

    private static void undoneAtOneTime() {
        check.promise("all that go by at one time are one");
        BackwardsLine x = laid(THREE + "b9,5;");
        x.pass(30);
        x.pass(1);
        due("count(7)", x.count(7), 2);
        due("undo()", x.undo(), 1);
        due("count(1)", x.count(1), 30);
        due("undo()", x.undo(), 0);
        due("count(1)", x.count(1), 0);
        line(x);
    }

    private static void behindSixty() {
        check.promise("BEHIND n MINUTES (0 to 60)");
        BackwardsLine x = laid("p0,59,0;p0,60,0;b9,5;");
        due("behind(59, -1)", x.behind(59, -1), 0);
        due("behind(59, 0)", x.behind(59, 0), NONE);
        due("behind(60, -1)", x.behind(60, -1), 1);
        due("behind(60, 0)", x.behind(60, 0), 0);
        due("behind(61, -1)", x.behind(61, -1), BAD);
        x.pass(1);
        due("behind(60, -1)", x.behind(60, -1), 2);
        due("behind(60, 0)", x.behind(60, 0), 1);
        BackwardsLine nine = laid(NINE + "b9,5;", 2);
        for (int k = 0; k <= 8; k++) {
            due("behind(0, " + k + ")", nine.behind(0, k), 8 - k);
            due("behind(7, " + k + ")", nine.behind(7, k), 8 - k);
            due("behind(8, " + k + ")", nine.behind(8, k), k == 8 ? NONE : 7 - k);
        }
        due("behind(0, -1)", nine.behind(0, -1), 9);
        due("behind(0, 9)", nine.behind(0, 9), BAD);
    }

    private static void whenNinetyNine() {
        check.promise("WHEN: behind how many MINUTES (1 to 99) one has EATEN first; none");
        BackwardsLine x = laid("p0,0,0;p0,98,0;p0,99,0;b1,5;");
        due("when(0)", x.when(0), 1);
        due("when(1)", x.when(1), 99);
        due("when(2)", x.when(2), NONE);
        x.pass(1);
        due("when(1)", x.when(1), 98);
        due("when(2)", x.when(2), 99);
        due("when(0), who has EATEN", x.when(0), NO);
        BackwardsLine y = laid("p0,98,0;p3,98,0;b1,5;"); // the second LOAF comes in minute 99
        due("when(0)", y.when(0), 99);
        due("when(1)", y.when(1), NONE);
    }

    private static void whenOfTheLast() {
        check.promise("WHEN");
        BackwardsLine x = laid(NINE + "b9,5;", 2);
        for (int p = 0; p < 9; p++) {
            due("when(" + p + ")", x.when(p), 9 * (9 - p) - 1);
        }
        x.leave(0);
        due("when(0), AWAY", x.when(0), NONE);
        due("when(1)", x.when(1), 71);
        // all are AWAY in minute 9 and AGAIN ahead of minute 10: the ninth LOAF comes in 90, as late as can be
        BackwardsLine late = laid(NINE + "b9,5;", 2);
        for (int p = 0; p < 9; p++) {
            late.leave(p);
        }
        due("pass(8)", late.pass(8), 0);
        for (int p = 0; p < 9; p++) {
            late.again(p);
        }
        due("when(8)", late.when(8), 9);
        due("when(0)", late.when(0), 81);
        due("pays()", late.pays(), 0b011111111);
        due("gains()", late.gains(), 0);
    }

    private static void paysSooner() {
        check.promise("those in the LINE (bits) whose WHEN would be sooner");
        due("pays() with nobody", laid(THREE).pays(), 0);
        due("pays() alone", laid("p0,1,0;b9,5;", 2).pays(), 0);
        due("pays() of two", laid("p0,1,0;p0,1,0;b9,5;", 2).pays(), 0b01);
        // 1 is a SNEEZER who has stood for 4: he SNEEZES ahead of the LOAF, unless he has come AGAIN
        due("pays() of a SNEEZER", laid("p0,1,0;p2,1,0;b5,5;", 5).pays(), 0b10);
        BackwardsLine x = laid("p0,1,0;p0,1,0;p0,1,0;p0,1,0;p0,50,0;b3,5;", 4);
        due("pays() with one that has EATEN", x.pays(), 0b00011);
        x.leave(1);
        due("pays() with one AWAY", x.pays(), 0b00001);
        due("pays() once more: nothing changes", x.pays(), 0b00001);
        line(x, 2, 0);
    }

    private static void paysAllBits() {
        check.promise("PAYS: those in the LINE (bits)");
        BackwardsLine x = laid(NINE + "b2,9;", 2);
        due("pays()", x.pays(), 0b011111111);
        x.giveUp(8);
        due("pays()", x.pays(), 0b101111111);
    }

    private static void gainsSooner() {
        check.promise("GAINS: those (bits) whose WHEN would be, were that one to SNEEZE now");
        due("gains() with nobody", laid(THREE + "r2;").gains(), 0);
        due("gains() alone", laid("p0,1,0;b9,5;r9;", 2).gains(), 0);
        due("gains() of two", laid("p0,1,0;p0,1,0;b9,5;r9;", 2).gains(), 0b10);
        // 0 is a SNEEZER who would stand at the HEAD by himself: no sooner
        due("gains() of a SNEEZER", laid("p0,1,0;p2,1,0;b5,5;r5;", 5).gains(), 0);
        BackwardsLine x = laid("p0,1,0;p0,1,0;p0,1,0;p0,1,0;p0,50,0;b3,5;r3;", 4);
        due("gains() with one that has EATEN", x.gains(), 0b01100);
        x.leave(2);
        due("gains() with one AWAY", x.gains(), 0b01000);
        due("gains() once more: nothing changes", x.gains(), 0b01000);
        line(x, 3, 1);
    }

    private static void gainsAllBits() {
        check.promise("GAINS: those (bits)");
        BackwardsLine x = laid(NINE + "b2,9;r2;", 2);
        due("gains()", x.gains(), 0b111111110);
        x.giveUp(1);
        due("gains()", x.gains(), 0b111111101);
    }

    private static void besidesLikewise() {
        check.promise("a second BAKER, who gives a LOAF likewise behind the first one");
        due("besides(0) alone", laid("p0,1,0;b2,5;", 2).besides(0), 1);
        BackwardsLine x = laid(NINE + "b9,5;", 2);
        int[] want = {8, 17, 26, 35, 44, 35, 26, 17, 8};
        for (int p = 0; p < 9; p++) {
            due("besides(" + p + ")", x.besides(p), want[p]);
        }
        // the first gives 1, who is not PROUD, the second one of the PROUD ones by his own side
        BackwardsLine proud = laid("p3,1,0;p0,1,0;p3,1,0;b2,5;", 2);
        due("besides(1)", proud.besides(1), 1);
        due("besides(0)", proud.besides(0), 1);
        due("besides(2)", proud.besides(2), 3);
        BackwardsLine told = laid("p3,1,0;p0,1,0;p3,1,0;b2,5;r2;", 2);
        due("besides(1) by a RUMOUR", told.besides(1), 1);
        due("besides(2) by a RUMOUR", told.besides(2), 1);
        due("besides(0) by a RUMOUR", told.besides(0), 3);
    }

    private static void besidesNinetyNine() {
        check.promise("BESIDES: WHEN of one");
        BackwardsLine x = laid("p0,0,0;p0,98,0;p0,98,0;p0,98,0;p0,99,0;b1,5;");
        due("besides(0)", x.besides(0), 1);
        due("besides(1), at the HEAD", x.besides(1), 99);
        due("besides(2), between", x.besides(2), NONE);
        due("besides(3), at the TAIL", x.besides(3), 99);
        due("besides(4)", x.besides(4), NONE);
        x.pass(1);
        due("besides(0), who has EATEN", x.besides(0), NO);
        due("besides(2)", x.besides(2), 99);
        due("besides(4)", x.besides(4), 99);
        due("when(2) without the second one", x.when(2), NONE);
    }

    private static void family(BackwardsLine x, int f, int wait, int... order) {
        due("family(" + f + ", 0)", x.family(f, 0), wait);
        for (int k = 1; k <= 5; k++) {
            due("family(" + f + ", " + k + ")", x.family(f, k), k <= order.length ? order[k - 1] : NONE);
        }
    }

    private static void familyOfThoseToCome() {
        check.promise("of all orders of those of it that have not come yet");
        BackwardsLine x = laid("p0,1,3;p0,1,3;p0,1,3;p0,50,3;p0,50,3;b1,9;", 2);
        line(x, 1, 0); // 2 has EATEN
        x.leave(0); // AWAY
        family(x, 3, 0, 3, 4);
        due("family(1, 0): none is of it", x.family(1, 0), NO);
        for (int f = 1; f <= 4; f++) {
            BackwardsLine y = laid("p0,9,0;p0,0,0;p0,9," + f + ";b1,9;");
            family(y, f, 0, 2);
            y.pass(9);
            due("family(" + f + ", 0) ahead of its minute", y.family(f, 0), 0);
            y.pass(1);
            for (int k = 0; k <= 5; k++) {
                due("family(" + f + ", " + k + ") behind it", y.family(f, k), NO);
            }
        }
    }

    private static void familyBehindALargerOne() {
        check.promise("of those of it");
        BackwardsLine x = laid("p0,50,1;".repeat(5) + "p0,50,2;b2,9;", 1);
        due("family(1, 5)", x.family(1, 5), 4);
        family(x, 2, 1, 5);
        due("family(1, 1)", x.family(1, 1), 0);
    }

    private static void familyNotWhenTheyWereTo() {
        check.promise("the first coming in the next MINUTE, the second in the one behind that, .. (not when they were to)");
        family(laid("p3,0,1;p0,0,1;b1,9;"), 1, 0, 0, 1); // both in minute 0, one would wait
        family(laid("p0,99,1;p0,98,1;b2,9;"), 1, 1, 0, 1); // 0 eats in minute 0, 1, who comes in 1, in 2
        BackwardsLine x = laid("p0,1,1;p0,2,1;b9,9;", 1);
        family(x, 1, 17, 0, 1); // in 1 and 2: 1 eats in 9, 0 in 18, 17 behind 1; 1 ahead of 0 is no better
    }

    private static void familyLastOrders() {
        check.promise("of all orders");
        family(laid("p0,50,1;p1,50,1;p0,0,0;b1,9;"), 1, 0, 1, 0);
        // the last of 24 alone is best
        family(laid("p2,50,1;p0,50,1;p1,50,1;p3,50,1;p2,7,0;b3,9;r4;"), 1, 8, 3, 2, 1, 0);
        // the last two of 120 are; 0 and 1 are alike, so of those the first
        family(laid("p2,50,1;p2,50,1;p0,50,1;p1,50,1;p3,50,1;p0,1,2;p2,2,0;b5,9;r4;"), 1, 17, 4, 3, 2, 0, 1);
    }

    private static void familyOfSeveralTheFirst() {
        check.promise("of several the first (by the first one, then the second, ..)");
        family(laid("p0,50,4;".repeat(5) + "b1,9;"), 4, 0, 0, 1, 2, 3, 4);
        family(laid("p0,50,0;p0,50,4;p0,50,2;p0,50,4;p0,50,4;b1,9;"), 4, 0, 1, 3, 4);
    }

    private static void familyLongestWait() {
        check.promise("a wait is how many MINUTES behind that in which he comes he EATS");
        family(laid("p0,50,2;b1,9;"), 2, 0, 0);
        family(laid("p0,50,2;b9,9;", 1), 2, 8, 0);
        // eight who are not PROUD come in minute 1 as he does: he eats the ninth LOAF, in minute 81
        family(laid("p3,50,2;" + "p0,1,0;".repeat(8) + "b9,9;", 1), 2, 80, 0);
    }

    private static void warmthSixty() {
        check.promise("WARMTH of n (0 to 60) MINUTES");
        BackwardsLine x = laid("p0,0,0;p0,59,0;p0,60,0;b1,40;");
        due("warmth(0)", x.warmth(0), 0);
        due("warmth(1)", x.warmth(1), 40);
        due("warmth(59)", x.warmth(59), 40);
        due("warmth(60)", x.warmth(60), 79);
        due("warmth(61)", x.warmth(61), BAD);
        x.pass(1);
        due("warmth(0)", x.warmth(0), 0);
        due("warmth(58)", x.warmth(58), 0);
        due("warmth(59)", x.warmth(59), 39);
        due("warmth(60)", x.warmth(60), 77);
        due("warmth(60) of nine by H 40", laid(NINE + "b1,40;").warmth(60), 324);
        due("lay()", x.lay(), 3);
        due("warmth(1), laid anew", x.warmth(1), 40);
        due("day(0, 1, 1), laid anew", x.day(0, 1, 1), 40);
    }

    private static void seenAtMostSix() {
        check.promise("SEEN (6 at most)");
        BackwardsLine x = laid("p0,0,0;p0,9,0;b1,9;");
        for (int i = 1; i <= 5; i++) {
            due("see(0, 1, true)", x.see(0, 1, true), i);
        }
        due("sneezed()", x.sneezed(), 512);
        due("see(1, 9, true), which is not so", x.see(1, 9, true), 6);
        due("sneezed(): the sixth counts", x.sneezed(), 0);
        due("see(0, 1, true), the seventh", x.see(0, 1, true), FULL);
        due("count(6)", x.count(6), 6);
        due("forget()", x.forget(), 6);
        due("see(0, 1, true)", x.see(0, 1, true), 1);
        due("sneezed(): what was SEEN is forgotten", x.sneezed(), 512);
    }

    private static int sneezedBy(BackwardsLine x, int p, int t, boolean has) {
        x.forget();
        x.see(p, t, has);
        return x.sneezed();
    }

    private static void seenOneToSixty() {
        check.promise("one has EATEN behind t (1 to 60) MINUTES");
        BackwardsLine x = laid("p0,0,0;p0,1,0;p0,59,0;p0,60,0;b1,9;");
        int[] first = {1, 2, 60, 61};
        for (int p = 0; p < 4; p++) {
            for (int t : new int[] {1, 2, 59, 60}) {
                String call = "see(" + p + ", " + t + ", ";
                due(call + "true), sneezed()", sneezedBy(x, p, t, true), t >= first[p] ? 512 : 0);
                due(call + "false), sneezed()", sneezedBy(x, p, t, false), t < first[p] ? 512 : 0);
            }
        }
    }

    private static void seenWhenThatIsAsked() {
        check.promise("from how it stands when that is asked");
        BackwardsLine x = laid("p0,60,0;b1,9;");
        x.see(0, 60, true);
        due("sneezed()", x.sneezed(), 0);
        due("kinds(0)", x.kinds(0), 0);
        x.pass(1);
        due("sneezed() a minute on", x.sneezed(), 512);
        due("kinds(0)", x.kinds(0), 15);
        x.undo();
        due("sneezed() as it was", x.sneezed(), 0);
    }

    private static void sneezedAllBits() {
        check.promise("those in the LINE (bits) such that .. all that is SEEN would be so; 512 more, if it is so as it is");
        BackwardsLine x = laid(NINE + "b2,9;", 2);
        due("sneezed() with nothing SEEN", x.sneezed(), 512 + 511);
        x.see(8, 1, true);
        due("sneezed(): unless 8 himself", x.sneezed(), 512 + 255);
        due("sneezed(): by 8 alone", sneezedBy(x, 7, 1, true), 256);
        due("sneezed(): by nobody", sneezedBy(x, 0, 1, true), 0);
        x.leave(8);
        due("sneezed() with 8 AWAY", sneezedBy(x, 7, 1, true), 512 + 127);
        line(x, 7, 6, 5, 4, 3, 2, 1, 0);
    }

    private static void sneezedWithNobody() {
        check.promise("512 more, if it is so as it is");
        BackwardsLine x = laid(THREE + "b2,9;");
        due("sneezed()", x.sneezed(), 512);
        due("sneezed()", sneezedBy(x, 2, 3, true), 512);
        due("sneezed()", sneezedBy(x, 2, 2, true), 0);
    }

    private static void kindsAllBits() {
        check.promise("KINDS of one: those (bits) by which all that is SEEN would be so");
        BackwardsLine x = laid("p0,1,0;p0,1,0;b5,9;", 5);
        due("kinds(1) with nothing SEEN", x.kinds(1), 0b1111);
        x.see(1, 1, true);
        due("kinds(1): not as a SNEEZER, nor PROUD", x.kinds(1), 0b0011);
        due("kinds(0)", x.kinds(0), 0b1111);
        x.see(0, 1, true);
        due("kinds(1): two by one LOAF", x.kinds(1), 0);
        // 1 comes in the minute in which the baker gives, behind one who would let him stand nearer to the HEAD
        BackwardsLine y = laid("p0,4,0;p0,5,0;b5,9;", 5);
        y.see(1, 1, false);
        due("kinds(0): POLITE alone", y.kinds(0), 0b0010);
        due("kinds(1): PROUD alone", y.kinds(1), 0b1000);
    }

    private static void kindsOfAnyone() {
        check.promise("KINDS of one");
        BackwardsLine x = laid("p0,1,0;p0,1,0;p0,1,0;p0,50,0;b2,9;", 3);
        x.leave(1);
        x.see(2, 1, true);
        for (int p = 0; p < 4; p++) { // in the LINE, AWAY, has EATEN, to come
            due("kinds(" + p + ")", x.kinds(p), 0b1111);
        }
        x.see(2, 60, false);
        for (int p = 0; p < 4; p++) {
            due("kinds(" + p + "): by none", x.kinds(p), 0);
        }
        for (int p = 0; p < 4; p++) {
            due("person(" + p + ", 0): nothing changes", x.person(p, 0), 0);
        }
    }

    private static void rumoursOfNoMinutes() {
        check.promise("in each of n (0 to 8) MINUTES from now on");
        BackwardsLine x = laid(THREE + "b2,9;", 3);
        x.leave(1);
        for (int tenths : new int[] {0, 1, 9, 10}) {
            chance(x, 2, 0, tenths, 1, 1);
            chance(x, 2, 8, tenths, 1, 1);
            chance(x, 0, 0, tenths, 0, 1);
            chance(x, 1, 8, tenths, 0, 1);
        }
    }

    private static void rumoursByTenths() {
        check.promise("there is one by x (0 to 10) of ten .. in lowest terms");
        BackwardsLine x = laid(THREE + "b2,9;", 2);
        int[] above = {0, 1, 1, 3, 2, 1, 3, 7, 4, 9, 1};
        int[] below = {1, 10, 5, 10, 5, 2, 5, 10, 5, 10, 1};
        for (int tenths = 0; tenths <= 10; tenths++) {
            chance(x, 0, 1, tenths, above[tenths], below[tenths]);
            chance(x, 2, 1, tenths, above[10 - tenths], below[10 - tenths]);
            chance(x, 1, 1, tenths, 0, 1);
        }
    }

    private static void rumoursOfEightMinutes() {
        check.promise("in each of n (0 to 8) MINUTES from now on");
        BackwardsLine x = laid(NINE + "b1,9;", 1);
        // 0 comes to stand at the HEAD: he eats by one RUMOUR of eight; 8 at the TAIL unless there are eight
        int nines = 43046721;
        int all = 100000000;
        chance(x, 0, 8, 1, all - nines, all);
        chance(x, 0, 8, 9, all - 1, all);
        chance(x, 8, 8, 9, all - nines, all);
        chance(x, 8, 8, 1, all - 1, all);
        chance(x, 0, 8, 0, 0, 1);
        chance(x, 0, 8, 10, 1, 1);
        chance(x, 8, 8, 0, 1, 1);
        chance(x, 8, 8, 10, 0, 1);
        chance(x, 0, 8, 5, 255, 256);
        BackwardsLine y = laid("p0,7,0;p0,8,0;b1,9;");
        chance(y, 0, 7, 3, 0, 1);
        chance(y, 0, 8, 3, 1, 1);
        chance(y, 1, 8, 3, 0, 1);
    }

    private static void rumoursWhateverIsTold() {
        check.promise("whatever is told");
        for (String told : new String[] {"", "r2;", "r3;", "r30;"}) {
            BackwardsLine x = laid(THREE + "b2,9;" + told, 2);
            chance(x, 2, 1, 0, 1, 1);
            chance(x, 0, 1, 0, 0, 1);
            chance(x, 0, 1, 10, 1, 1);
            chance(x, 2, 1, 10, 0, 1);
        }
    }

    private static int draw(int z, int k) {
        BigInteger x = BigInteger.valueOf(7919).multiply(BigInteger.valueOf(z))
                .add(BigInteger.valueOf(6151).multiply(BigInteger.valueOf(k))).add(BigInteger.ONE);
        return x.multiply(x).mod(BigInteger.valueOf(65521)).intValue();
    }

    private static void dayOfSixty() {
        check.promise("A DAY by z (0 to 9999) of n (1 to 60) MINUTES from now on");
        BackwardsLine x = laid("p0,59,0;p0,60,0;b1,7;");
        for (int z : new int[] {0, 1, 9998, 9999}) {
            due("day(" + z + ", 1, 0)", x.day(z, 1, 0), 0);
            due("day(" + z + ", 59, 0)", x.day(z, 59, 0), 0);
            due("day(" + z + ", 60, 0)", x.day(z, 60, 0), 1);
            due("day(" + z + ", 60, 1)", x.day(z, 60, 1), 7);
            due("day(" + z + ", 61, 0)", x.day(z, 61, 0), BAD);
        }
        due("day(0, 1, 0) of minute 0", laid("p0,0,0;b1,7;").day(0, 1, 0), 1);
    }

    private static void dayOfOneToComeOrFed() {
        check.promise("if that can be");
        for (int z = 0; z <= 9999; z += 303) {
            BackwardsLine late = laid("p0,59,0;b1,7;"); // whatever is drawn, he comes in minute 59, behind the last DRAW
            due("day(" + z + ", 59, 0) of one to come", late.day(z, 59, 0), 0);
            due("day(" + z + ", 60, 0) of one to come", late.day(z, 60, 0), 1);
            BackwardsLine fed = laid("p0,0,0;b1,7;", 1);
            due("day(" + z + ", 60, 0) of one who has EATEN", fed.day(z, 60, 0), 1);
            due("day(" + z + ", 60, 1) of one who has EATEN", fed.day(z, 60, 1), 0);
        }
    }

    private static void dayByPersons() {
        check.promise("the k-th (0 first) PERSON (DRAW by 8, cut) modulo as many as there are");
        for (int people = 1; people <= 9; people++) {
            BackwardsLine x = laid("p0,1,0;".repeat(people) + "b1,9;", 2);
            for (int p = 0; p < people - 1; p++) { // the last one has EATEN
                x.leave(p);
            }
            for (int z : new int[] {0, 1, 5000, 9998, 9999}) {
                eatenAsTheyComeAgain(x, people, z);
            }
        }
    }

    /** A LOAF is given in each minute, so who is AWAY eats as soon as he comes AGAIN, and no DRAW but that can be. */
    private static void eatenAsTheyComeAgain(BackwardsLine x, int people, int z) {
        boolean[] fed = new boolean[people];
        fed[people - 1] = true;
        int eaten = 1;
        int warm = 0;
        for (int k = 0; k < 60; k++) {
            int p = draw(z, k) / 8 % people;
            if (draw(z, k) % 5 == 3 && !fed[p]) {
                fed[p] = true;
                warm += 9 - eaten;
                eaten++;
            }
            due("day(" + z + ", " + (k + 1) + ", 0) of " + people, x.day(z, k + 1, 0), eaten);
        }
        due("day(" + z + ", 60, 1) of " + people, x.day(z, 60, 1), warm);
    }

    private static void dayOfOne() {
        check.promise("modulo as many as there are");
        for (int z = 0; z <= 9999; z += 99) {
            BackwardsLine x = laid("p0,1,0;b2,7;", 2);
            due("day(" + z + ", 1, 0) of one in the LINE", x.day(z, 1, 0), draw(z, 0) % 5 == 2 ? 0 : 1);
            x.leave(0);
            due("day(" + z + ", 1, 0) of one AWAY", x.day(z, 1, 0), draw(z, 0) % 5 == 3 ? 1 : 0);
        }
    }

    private static void dayAtTheHead() {
        check.promise("GIVES UP his place, if DRAW modulo 5 is 0, .. if that can be");
        BackwardsLine x = laid("p0,1,0;p0,1,0;b2,9;", 2);
        x.giveUp(1);
        due("day(45, 3, 0): 7065, 48693, 17647: 1 can't give up, then leaves", x.day(45, 3, 0), 1);
        due("day(45, 3, 1)", x.day(45, 3, 1), 9);
        for (int z = 0; z <= 999; z++) {
            if (draw(z, 0) % 5 == 0 && draw(z, 0) / 8 % 9 == 0) {
                BackwardsLine nine = laid(NINE + "b2,9;", 2);
                due("day(" + z + ", 1, 0) of nine", nine.day(z, 1, 0), 1);
                due("day(" + z + ", 1, 1) of nine", nine.day(z, 1, 1), 9);
            }
        }
    }

    private static void dayByDraws() {
        check.promise("GIVES UP his place, if DRAW modulo 5 is 0, SNEEZES, if it is 1, LEAVES, if it is 2, comes AGAIN, if it is 3");
        // 1 stands at the TAIL, 0 at the HEAD; ahead of the DAY's first minute and of its third LOAVES are to be given
        BackwardsLine x = laid("p0,1,0;p0,1,0;b2,9;", 2);
        due("day(45, 3, 0): 7065, 48693, 17647: 1 gives up, 1 leaves unfed", x.day(45, 3, 0), 1);
        due("day(45, 1, 0)", x.day(45, 1, 0), 1);
        due("day(71, 3, 0): 62431, 35708, 1832: 1 sneezes, 1 leaves unfed", x.day(71, 3, 0), 1);
        due("day(71, 3, 1)", x.day(71, 3, 1), 9);
        due("day(7, 3, 0): 58977: 0 leaves", x.day(7, 3, 0), 1);
        due("day(32, 3, 0): 37517: 1 leaves", x.day(32, 3, 0), 1);
        due("day(36, 3, 0): 29447, 31734, 26868: 0 leaves and comes again", x.day(36, 3, 0), 2);
        due("day(512, 3, 0): 9167, 10044, 3768: 1 leaves and comes again", x.day(512, 3, 0), 2);
        due("day(512, 3, 1)", x.day(512, 3, 1), 17);
        check.promise("if that can be");
        due("day(7611, 3, 0): 61570: 0 stands at the HEAD; 1 has eaten when he is to leave", x.day(7611, 3, 0), 2);
        due("day(87, 3, 0): 33598: 1 stands in the LINE; 1 has eaten when he is to leave", x.day(87, 3, 0), 2);
        due("day(130, 3, 0): 43674: nothing by 4; 1 has eaten when he is to leave", x.day(130, 3, 0), 2);
        line(x, 1, 0);
    }

    private static void keptAreTwo() {
        check.promise("KEPT .. 2 at most");
        BackwardsLine x = laid(THREE + "b9,9;", 2);
        due("back() with nothing KEPT", x.back(), NO);
        due("keep()", x.keep(), 1);
        x.pass(1);
        due("keep()", x.keep(), 2);
        x.pass(1);
        due("keep(), the third", x.keep(), FULL);
        due("count(8)", x.count(8), 2);
        due("count(1): nothing changes", x.count(1), 4);
        due("back()", x.back(), 1);
        due("count(1)", x.count(1), 3);
        due("back()", x.back(), 0);
        due("count(1)", x.count(1), 2);
        due("back() with nothing KEPT", x.back(), NO);
        due("count(1)", x.count(1), 2);
    }

    private static void keptRoundAndRound() {
        check.promise("KEPT .. 2 at most");
        BackwardsLine x = laid(THREE + "b9,9;");
        for (int round = 0; round < 5; round++) {
            int start = x.count(1);
            due("keep()", x.keep(), 1);
            x.pass(1);
            due("keep()", x.keep(), 2);
            x.pass(1);
            due("back()", x.back(), 1);
            due("count(1)", x.count(1), start + 1);
            x.pass(2);
            due("keep()", x.keep(), 2);
            due("keep()", x.keep(), FULL);
            x.pass(2);
            due("back()", x.back(), 1);
            due("count(1)", x.count(1), start + 3);
            due("back()", x.back(), 0);
            due("count(1)", x.count(1), start);
            due("back()", x.back(), NO);
            x.pass(3);
        }
    }

    private static void keptIsWhichLoafWhen() {
        check.promise("KEPT is all as it stands");
        BackwardsLine x = laid(THREE + "b2,9;", 2);
        x.pass(1);
        x.keep();
        x.undo();
        x.sneeze(2);
        x.pass(5);
        due("person(2, 6)", x.person(2, 6), 6);
        due("person(2, 7)", x.person(2, 7), 7);
        due("back()", x.back(), 0);
        due("person(2, 6)", x.person(2, 6), 2);
        due("person(2, 7)", x.person(2, 7), 9);
        due("person(1, 6)", x.person(1, 6), NONE);
    }

    private static void keptIsAllButSeenAndText() {
        check.promise("KEPT is all as it stands, but what is SEEN and THE TEXT (these stay by back(), behind which nothing "
                + "can be UNDONE)");
        BackwardsLine x = laid(THREE + "b2,9;", 3);
        x.leave(1);
        x.see(0, 1, false);
        x.keep();
        due("count(7): they still can be", x.count(7), 2);
        due("undo()", x.undo(), 1);
        x.pass(5);
        x.see(0, 2, true);
        x.write('z');
        due("back()", x.back(), 0);
        line(x, 0);
        due("person(1, 3)", x.person(1, 3), 2);
        due("person(2, 6)", x.person(2, 6), 2);
        due("person(2, 7)", x.person(2, 7), 9);
        due("person(0, 5)", x.person(0, 5), 2);
        due("count(1)", x.count(1), 3);
        due("count(5)", x.count(5), 1);
        due("count(6)", x.count(6), 2);
        due("sneezed(): both that are SEEN are so", x.sneezed(), 512 + 1);
        due("count(9)", x.count(9), 27);
        due("fault(): the z", x.fault(), 26);
        due("count(7)", x.count(7), 0);
        due("undo()", x.undo(), NO);
        due("warmth(2): the second LOAF", x.warmth(2), 8);
        x.pass(2);
        due("undo(): what came behind it can be", x.undo(), 0);
        line(x, 0);
    }
}
