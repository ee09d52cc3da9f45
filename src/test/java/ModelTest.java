import java.util.Random;

/** Runs of calls by chance (always the same ones), asked of the program and of the model side by side. */
public final class ModelTest {
    private static final Check check = new Check();
    private static final int RUNS = 1500;
    private static final int CALLS = 512; // what an object is used for at most
    private static final int ONE_LOOK = 22; // calls
    private static final int ONE_LAYING = 250; // calls

    private final BackwardsLine line = new BackwardsLine();
    private final Model model = new Model();
    private final Random random;
    private final StringBuilder told = new StringBuilder();
    private int calls;

    private ModelTest(long seed) {
        random = new Random(seed);
    }

    public static void main(String[] args) {
        for (int run = 0; run < RUNS; run++) {
            check.promise("run " + run);
            new ModelTest(run).go();
        }
        check.end("ModelTest");
    }

    private void go() {
        if (random.nextInt(4) != 0) {
            layAnew();
        }
        while (calls <= CALLS - ONE_LOOK) {
            int dice = random.nextInt(100);
            if (dice < 35) {
                move();
            } else if (dice < 60) {
                look();
            } else if (dice < 80) {
                ask();
            } else if (dice < 98) {
                seenKeptOrDay();
            } else if (calls <= CALLS - ONE_LAYING) {
                layAnew();
            }
        }
    }

    private void due(String call, int got, int want) {
        calls++;
        told.append(call).append(' ');
        check.due(call + " behind [" + (got == want ? "" : told) + "]", got, want);
        if (calls > CALLS) {
            throw new IllegalStateException("an object is used for too many calls");
        }
    }

    private int upTo(int high) {
        return random.nextInt(high + 1);
    }

    /** Mostly from low to high, now and then next to it or far off. */
    private int about(int low, int high) {
        int dice = random.nextInt(60);
        if (dice == 0) {
            return low - 1;
        }
        if (dice == 1) {
            return high + 1;
        }
        if (dice == 2) {
            return random.nextInt();
        }
        return low + random.nextInt(high - low + 1);
    }

    private int someone() {
        return about(0, Math.max(0, model.count(0) - 1));
    }

    private int someoneInLine() {
        int size = model.count(2);
        return size > 0 && random.nextInt(5) != 0 ? model.at(random.nextInt(size)) : someone();
    }

    private void write(int letter) {
        due("write(" + letter + ")", line.write(letter), model.write(letter));
    }

    private void layAnew() {
        due("wipe()", line.wipe(), model.wipe());
        String text = randomText();
        for (int i = 0; i < text.length(); i++) {
            write(text.charAt(i));
        }
        due("fault()", line.fault(), model.fault());
        due("lay()", line.lay(), model.lay());
        look();
    }

    private String randomText() {
        StringBuilder text = new StringBuilder();
        int people = 1 + upTo(8) + (random.nextInt(30) == 0 ? 1 : 0);
        int latest = random.nextInt(3) == 0 ? 99 : 4 + upTo(20);
        int families = upTo(4);
        boolean oneKind = random.nextInt(4) == 0;
        int kind = upTo(3);
        for (int p = 0; p < people; p++) {
            int f = families == 0 ? 0 : 1 + random.nextInt(families);
            text.append('p').append(oneKind ? kind : upTo(3)).append(',').append(upTo(latest)).append(',')
                    .append(random.nextInt(3) == 0 ? 0 : f).append(';');
            if (random.nextInt(10) == 0) {
                text.append('b').append(about(1, 9)).append(',').append(about(0, 40)).append(';');
            }
        }
        if (random.nextInt(5) != 0) {
            text.append('b').append(1 + upTo(8)).append(',').append(upTo(40)).append(';');
        }
        if (random.nextInt(4) != 0) {
            text.append('r').append(2 + (random.nextBoolean() ? upTo(5) : upTo(28))).append(';');
        }
        if (random.nextInt(8) == 0) {
            String letters = "pbr0123456789,;; x-";
            int place = random.nextInt(text.length());
            char other = letters.charAt(random.nextInt(letters.length()));
            if (random.nextBoolean()) {
                text.setCharAt(place, other);
            } else {
                text.insert(place, other);
            }
        }
        return text.toString();
    }

    private void move() {
        int p = someoneInLine();
        int q = someone();
        switch (random.nextInt(9)) {
            case 0:
            case 1:
            case 2:
                int n = random.nextInt(6) == 0 ? about(1, 30) : 1 + upTo(2);
                due("pass(" + n + ")", line.pass(n), model.pass(n));
                break;
            case 3:
                due("giveUp(" + p + ")", line.giveUp(p), model.giveUp(p));
                break;
            case 4:
                due("sneeze(" + p + ")", line.sneeze(p), model.sneeze(p));
                break;
            case 5:
                due("leave(" + p + ")", line.leave(p), model.leave(p));
                break;
            case 6:
                due("again(" + q + ")", line.again(q), model.again(q));
                break;
            default:
                due("undo()", line.undo(), model.undo());
                break;
        }
    }

    private void look() {
        int p = someone();
        for (int what = -1; what <= 8; what++) {
            due("person(" + p + ", " + what + ")", line.person(p, what), model.person(p, what));
        }
        for (int k = -1; k <= model.count(2); k++) {
            due("at(" + k + ")", line.at(k), model.at(k));
        }
        int what = about(0, 9);
        due("count(" + what + ")", line.count(what), model.count(what));
    }

    private void ask() {
        int p = someone();
        int n = about(0, 60);
        int k = about(-1, 8);
        int f = about(1, 4);
        int i = about(0, 5);
        switch (random.nextInt(7)) {
            case 0: due("behind(" + n + ", " + k + ")", line.behind(n, k), model.behind(n, k)); break;
            case 1: due("when(" + p + ")", line.when(p), model.when(p)); break;
            case 2: due("pays()", line.pays(), model.pays()); break;
            case 3: due("gains()", line.gains(), model.gains()); break;
            case 4: due("besides(" + p + ")", line.besides(p), model.besides(p)); break;
            case 5:
                if (random.nextInt(4) == 0) {
                    due("family(" + f + ", " + i + ")", line.family(f, i), model.family(f, i));
                }
                break;
            default: due("warmth(" + n + ")", line.warmth(n), model.warmth(n)); break;
        }
    }

    private void seenKeptOrDay() {
        int p = someone();
        int t = about(1, 60);
        int n = about(0, random.nextInt(10) == 0 ? 8 : 4);
        int x = about(0, 10);
        int part = about(0, 1);
        int z = about(0, 9999);
        boolean has = random.nextBoolean();
        switch (random.nextInt(9)) {
            case 0: due("see(" + p + ", " + t + ", " + has + ")", line.see(p, t, has), model.see(p, t, has)); break;
            case 1: due("forget()", line.forget(), model.forget()); break;
            case 2: due("sneezed()", line.sneezed(), model.sneezed()); break;
            case 3: due("kinds(" + p + ")", line.kinds(p), model.kinds(p)); break;
            case 4:
                due("rumours(" + p + ", " + n + ", " + x + ", " + part + ")", line.rumours(p, n, x, part),
                        model.rumours(p, n, x, part));
                break;
            case 5:
            case 6: due("day(" + z + ", " + t + ", " + part + ")", line.day(z, t, part), model.day(z, t, part)); break;
            case 7: due("keep()", line.keep(), model.keep()); break;
            default: due("back()", line.back(), model.back()); break;
        }
    }
}
