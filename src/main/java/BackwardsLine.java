/** A line for bread that is served from its tail; see ../shared/DOC.md for each promise. */
public final class BackwardsLine {
    public static final int BAD = -1, NO = -2, FULL = -3, NONE = -4;

    private static final String FIRST_TEXT =
            "p0,0,0;p1,0,1;p0,1,1;p2,2,0;p0,3,2;p3,4,2;p1,6,0;p0,8,0;p2,9,1;b3,20;r7;";

    private static final int MOST_LETTERS = 200, MOST_PEOPLE = 9, MOST_KIN = 5, MOST_FAMILIES = 4;
    private static final int MOST_SEEN = 6, MOST_UNDONE = 8, MOST_KEPT = 2;
    private static final int MOST_PASSED = 30, MOST_AHEAD = 60, MOST_WAITED = 99, MOST_RUMOURS = 8;

    private static final int POLITE = 1, SNEEZER = 2, PROUD = 3, KINDS_IN_ALL = 4;
    private static final int NOT_COME = 0, IN_LINE = 1, AWAY = 2, EATEN = 3;
    private static final int SNEEZES_AFTER = 4;
    private static final int AS_IT_IS = 512;

    private final Text text = new Text();
    private final Plan draft = new Plan();
    private final Forecast forecast = new Forecast();
    private final Plan plan = forecast.plan;
    private final Line now = forecast.now;
    private final Seen seen = new Seen();
    private final Shelf undoable = new Shelf(MOST_UNDONE);
    private final Shelf kept = new Shelf(MOST_KEPT);

    public BackwardsLine() {
        for (int i = 0; i < FIRST_TEXT.length(); i++) {
            text.put(FIRST_TEXT.charAt(i));
        }
        text.readInto(plan);
        text.empty();
    }

    // ---- lines

    public int write(int letter) {
        if (letter < 32 || letter > 126) {
            return BAD;
        }
        return text.put(letter) ? text.length : FULL;
    }

    public int wipe() {
        int was = text.length;
        text.empty();
        return was;
    }

    public int fault() {
        return text.readInto(draft);
    }

    public int lay() {
        if (text.readInto(draft) != NONE || draft.people < 1) {
            return NO;
        }
        plan.copyFrom(draft);
        now.clear();
        seen.empty();
        undoable.empty();
        kept.empty();
        return plan.people;
    }

    public int person(int p, int what) {
        if (!plan.has(p)) {
            return BAD;
        }
        switch (what) {
            case 0: return plan.kindOf(p);
            case 1: return plan.comingOf(p);
            case 2: return plan.kinOf(p);
            case 3: return now.whereIs(p);
            case 4: return now.placeOf(p);
            case 5: return now.stoodOf(p);
            case 6: return now.ateInOf(p);
            case 7: return now.warmOf(p);
            default: return BAD;
        }
    }

    public int at(int k) {
        return k < 0 ? BAD : now.whoAt(k);
    }

    // ---- minutes

    public int pass(int n) {
        if (n < 1 || n > MOST_PASSED) {
            return BAD;
        }
        undoable.push(now);
        now.run(plan, n);
        return now.howMany(EATEN);
    }

    public int giveUp(int p) {
        if (!plan.has(p)) {
            return BAD;
        }
        if (!now.canYield(p)) {
            return NO;
        }
        undoable.push(now);
        now.yieldPlace(p);
        return now.placeOf(p);
    }

    public int sneeze(int p) {
        if (!plan.has(p)) {
            return BAD;
        }
        if (now.whereIs(p) != IN_LINE) {
            return NO;
        }
        undoable.push(now);
        now.goToHead(p);
        return now.size;
    }

    public int leave(int p) {
        if (!plan.has(p)) {
            return BAD;
        }
        if (now.whereIs(p) != IN_LINE) {
            return NO;
        }
        undoable.push(now);
        now.goAway(p);
        return now.size;
    }

    public int again(int p) {
        if (!plan.has(p)) {
            return BAD;
        }
        if (now.whereIs(p) != AWAY) {
            return NO;
        }
        undoable.push(now);
        now.join(plan, p);
        return now.placeOf(p);
    }

    public int undo() {
        return undoable.popInto(now) ? undoable.held : NO;
    }

    // ---- what comes

    public int behind(int n, int k) {
        if (n < 0 || n > MOST_AHEAD || k < -1 || k >= MOST_PEOPLE) {
            return BAD;
        }
        Line then = forecast.lineBehind(n);
        return k == -1 ? then.size : then.whoAt(k);
    }

    public int when(int p) {
        return whenOf(p, false);
    }

    public int pays() {
        return forecast.whoGains(true);
    }

    public int gains() {
        return forecast.whoGains(false);
    }

    public int besides(int p) {
        return whenOf(p, true);
    }

    private int whenOf(int p, boolean secondBaker) {
        if (!plan.has(p)) {
            return BAD;
        }
        if (now.whereIs(p) == EATEN) {
            return NO;
        }
        forecast.startTrial();
        int wait = forecast.whenEaten(p, secondBaker);
        return wait > MOST_WAITED ? NONE : wait;
    }

    public int family(int f, int k) {
        if (f < 1 || f > MOST_FAMILIES || k < 0 || k > MOST_KIN) {
            return BAD;
        }
        if (!forecast.orders.gather(plan, now, f)) {
            return NO;
        }
        if (k > forecast.orders.size) {
            return NONE;
        }
        int wait = forecast.bestOrder();
        return k == 0 ? wait : forecast.orders.bestAt(k - 1);
    }

    public int warmth(int n) {
        if (n < 0 || n > MOST_AHEAD) {
            return BAD;
        }
        return forecast.lineBehind(n).heat - now.heat;
    }

    // ---- what was seen

    public int see(int p, int t, boolean has) {
        if (!plan.has(p) || t < 1 || t > MOST_AHEAD) {
            return BAD;
        }
        return seen.add(p, t, has) ? seen.size : FULL;
    }

    public int forget() {
        int were = seen.size;
        seen.empty();
        return were;
    }

    public int sneezed() {
        return forecast.whoSneezed(seen);
    }

    public int kinds(int p) {
        return plan.has(p) ? forecast.whichKinds(seen, p) : BAD;
    }

    // ---- rumours, days

    public int rumours(int p, int n, int x, int part) {
        if (!plan.has(p) || n < 0 || n > MOST_RUMOURS || x < 0 || x > 10 || part < 0 || part > 1) {
            return BAD;
        }
        int above = forecast.chanceOfTenths(p, n, x);
        int below = power(10, n);
        int divisor = greatestDivisor(above, below);
        if (divisor < 1) {
            return BAD;
        }
        return (part == 0 ? above : below) / divisor;
    }

    public int day(int z, int n, int what) {
        if (z < 0 || z > 9999 || n < 1 || n > MOST_AHEAD || what < 0 || what > 1) {
            return BAD;
        }
        Line then = forecast.lineBehindDay(z, n);
        return what == 0 ? then.howMany(EATEN) : then.heat - now.heat;
    }

    public int keep() {
        if (kept.held >= MOST_KEPT) {
            return FULL;
        }
        kept.push(now);
        return kept.held;
    }

    public int back() {
        if (!kept.popInto(now)) {
            return NO;
        }
        undoable.empty();
        return kept.held;
    }

    public int count(int what) {
        switch (what) {
            case 0: return plan.people;
            case 1: return now.minute;
            case 2: return now.size;
            case 3: return now.howMany(AWAY);
            case 4: return now.howMany(EATEN);
            case 5: return now.loaves;
            case 6: return seen.size;
            case 7: return undoable.held;
            case 8: return kept.held;
            case 9: return text.length;
            default: return BAD;
        }
    }

    private static int power(int base, int exponent) {
        int result = 1;
        for (int i = 0; i < exponent; i++) {
            result *= base;
        }
        return result;
    }

    /** Of numbers that are not below 0; a hundred rounds are more than Euclid needs for any int. */
    private static int greatestDivisor(int a, int b) {
        int larger = a;
        int smaller = b;
        for (int round = 0; round < 100 && smaller != 0; round++) {
            int rest = larger % smaller;
            larger = smaller;
            smaller = rest;
        }
        return larger;
    }

    /** THE TEXT, and how it is read. */
    private static final class Text {
        private final int[] letters = new int[MOST_LETTERS];
        private final int[] numbers = new int[3];
        private int length;

        boolean put(int letter) {
            if (length < 0 || length >= letters.length) {
                return false;
            }
            letters[length] = letter;
            length++;
            return true;
        }

        void empty() {
            length = 0;
        }

        /** The FAULT, or NONE; the plan then holds the items ahead of it. */
        int readInto(Plan plan) {
            plan.clear();
            int start = 0;
            for (int item = 0; item < MOST_LETTERS && start < length; item++) {
                int end = readItem(plan, start);
                if (end < 0) {
                    return start;
                }
                start = end;
            }
            return NONE;
        }

        /** Where the next item begins; below 0, if this one is not so. */
        private int readItem(Plan plan, int start) {
            int letter = letterAt(start);
            int wanted = numbersBehind(letter);
            int place = start + 1;
            for (int i = 0; i < wanted && i < numbers.length; i++) {
                int figures = figuresFrom(place);
                if (figures == 0) {
                    return -1;
                }
                numbers[i] = valueOf(place, figures);
                place += figures;
                if (letterAt(place) != (i == wanted - 1 ? ';' : ',')) {
                    return -1;
                }
                place++;
            }
            return take(plan, letter) ? place : -1;
        }

        private boolean take(Plan plan, int letter) {
            switch (letter) {
                case 'p': return plan.addPerson(numbers[0], numbers[1], numbers[2]);
                case 'b': return plan.setBaker(numbers[0], numbers[1]);
                case 'r': return plan.setRumour(numbers[0]);
                default: return false;
            }
        }

        private static int numbersBehind(int letter) {
            switch (letter) {
                case 'p': return 3;
                case 'b': return 2;
                case 'r': return 1;
                default: return 0;
            }
        }

        /** 0, 1 or 2: a third figure in a row is left for the caller to find where , or ; should be. */
        private int figuresFrom(int place) {
            if (!isFigure(letterAt(place))) {
                return 0;
            }
            return isFigure(letterAt(place + 1)) ? 2 : 1;
        }

        private int valueOf(int place, int figures) {
            int first = letterAt(place) - '0';
            return figures == 2 ? first * 10 + letterAt(place + 1) - '0' : first;
        }

        private int letterAt(int place) {
            return place >= 0 && place < length && place < letters.length ? letters[place] : -1;
        }

        private static boolean isFigure(int letter) {
            return letter >= '0' && letter <= '9';
        }
    }

    /** What a text tells: who comes when, how often loaves are given, when there are rumours. */
    private static final class Plan {
        private final int[] kind = new int[MOST_PEOPLE];
        private final int[] coming = new int[MOST_PEOPLE];
        private final int[] kin = new int[MOST_PEOPLE];
        private int people;
        private int bakesEvery;
        private int firstWarm;
        private int rumourEvery;

        void clear() {
            people = 0;
            bakesEvery = 2;
            firstWarm = 20;
            rumourEvery = 0;
        }

        void copyFrom(Plan other) {
            System.arraycopy(other.kind, 0, kind, 0, MOST_PEOPLE);
            System.arraycopy(other.coming, 0, coming, 0, MOST_PEOPLE);
            System.arraycopy(other.kin, 0, kin, 0, MOST_PEOPLE);
            people = other.people;
            bakesEvery = other.bakesEvery;
            firstWarm = other.firstWarm;
            rumourEvery = other.rumourEvery;
        }

        /** When he comes needs no look: two figures tell 99 at most, and none is below 0. */
        boolean addPerson(int ofKind, int comesIn, int ofKin) {
            if (people < 0 || people >= MOST_PEOPLE || ofKind >= KINDS_IN_ALL || ofKin > MOST_FAMILIES) {
                return false;
            }
            if (ofKin != 0 && howManyOf(ofKin) >= MOST_KIN) {
                return false;
            }
            kind[people] = ofKind;
            coming[people] = comesIn;
            kin[people] = ofKin;
            people++;
            return true;
        }

        boolean setBaker(int every, int warm) {
            if (every < 1 || every > 9 || warm > 40) {
                return false;
            }
            bakesEvery = every;
            firstWarm = warm;
            return true;
        }

        boolean setRumour(int every) {
            if (every < 2 || every > 30) {
                return false;
            }
            rumourEvery = every;
            return true;
        }

        private int howManyOf(int ofKin) {
            int many = 0;
            for (int p = 0; p < people && p < MOST_PEOPLE; p++) {
                if (kin[p] == ofKin) {
                    many++;
                }
            }
            return many;
        }

        boolean has(int p) {
            return p >= 0 && p < people;
        }

        int kindOf(int p) {
            return p >= 0 && p < MOST_PEOPLE ? kind[p] : 0;
        }

        int comingOf(int p) {
            return p >= 0 && p < MOST_PEOPLE ? coming[p] : 0;
        }

        int kinOf(int p) {
            return p >= 0 && p < MOST_PEOPLE ? kin[p] : 0;
        }

        void setKind(int p, int ofKind) {
            if (p >= 0 && p < MOST_PEOPLE) {
                kind[p] = ofKind;
            }
        }

        void setComing(int p, int comesIn) {
            if (p >= 0 && p < MOST_PEOPLE) {
                coming[p] = comesIn;
            }
        }

        /** If p at the tail lets q, who joins, stand ahead of him; one of no family is nobody's kin. */
        boolean letsPass(int p, int q) {
            if (p < 0 || p >= MOST_PEOPLE || q < 0 || q >= MOST_PEOPLE || kind[p] != POLITE) {
                return false;
            }
            return kin[p] == 0 || kin[p] != kin[q];
        }

        boolean givesIn(int minute) {
            return bakesEvery > 0 && minute % bakesEvery == 0;
        }

        boolean rumourIn(int minute) {
            return rumourEvery > 0 && minute % rumourEvery == 0;
        }
    }

    /** All as it stands at one time: who is where, since when, and what was eaten. */
    private static final class Line {
        private final int[] order = new int[MOST_PEOPLE]; // from the tail on
        private final int[] where = new int[MOST_PEOPLE];
        private final int[] stood = new int[MOST_PEOPLE];
        private final int[] ateIn = new int[MOST_PEOPLE];
        private final int[] warm = new int[MOST_PEOPLE];
        private int size;
        private int minute;
        private int loaves;
        private int heat; // of all loaves given, so that a span's warmth is a difference

        void clear() {
            for (int p = 0; p < MOST_PEOPLE; p++) {
                order[p] = 0;
                where[p] = NOT_COME;
                stood[p] = 0;
                ateIn[p] = 0;
                warm[p] = 0;
            }
            size = 0;
            minute = 0;
            loaves = 0;
            heat = 0;
        }

        void copyFrom(Line other) {
            System.arraycopy(other.order, 0, order, 0, MOST_PEOPLE);
            System.arraycopy(other.where, 0, where, 0, MOST_PEOPLE);
            System.arraycopy(other.stood, 0, stood, 0, MOST_PEOPLE);
            System.arraycopy(other.ateIn, 0, ateIn, 0, MOST_PEOPLE);
            System.arraycopy(other.warm, 0, warm, 0, MOST_PEOPLE);
            size = other.size;
            minute = other.minute;
            loaves = other.loaves;
            heat = other.heat;
        }

        int whoAt(int place) {
            return place >= 0 && place < size && place < MOST_PEOPLE ? order[place] : NONE;
        }

        int placeOf(int p) {
            for (int place = 0; place < size && place < MOST_PEOPLE; place++) {
                if (order[place] == p) {
                    return place;
                }
            }
            return NONE;
        }

        int whereIs(int p) {
            return p >= 0 && p < MOST_PEOPLE ? where[p] : NOT_COME;
        }

        int stoodOf(int p) {
            return p >= 0 && p < MOST_PEOPLE && where[p] == IN_LINE ? stood[p] : 0;
        }

        int ateInOf(int p) {
            return p >= 0 && p < MOST_PEOPLE && where[p] == EATEN ? ateIn[p] : NONE;
        }

        int warmOf(int p) {
            return p >= 0 && p < MOST_PEOPLE && where[p] == EATEN ? warm[p] : NONE;
        }

        int howMany(int thatAre) {
            int many = 0;
            for (int p = 0; p < MOST_PEOPLE; p++) {
                if (where[p] == thatAre) {
                    many++;
                }
            }
            return many;
        }

        void run(Plan plan, int minutes) {
            for (int i = 0; i < minutes; i++) {
                goOn(plan, plan.rumourIn(minute), false);
            }
        }

        /** One minute, step by step as the document tells it. */
        void goOn(Plan plan, boolean rumour, boolean secondBaker) {
            joinAll(plan);
            sneezeAll(plan);
            if (plan.givesIn(minute)) {
                giveLoaf(plan, rumour);
                if (secondBaker) {
                    giveLoaf(plan, !rumour);
                }
            }
            standOn();
            minute++;
        }

        private void joinAll(Plan plan) {
            for (int p = 0; p < plan.people && p < MOST_PEOPLE; p++) {
                if (where[p] == NOT_COME && plan.coming[p] == minute) {
                    join(plan, p);
                }
            }
        }

        private void sneezeAll(Plan plan) {
            for (int p = 0; p < plan.people && p < MOST_PEOPLE; p++) {
                if (where[p] == IN_LINE && plan.kind[p] == SNEEZER && stood[p] >= SNEEZES_AFTER) {
                    goToHead(p);
                }
            }
        }

        private void standOn() {
            for (int p = 0; p < MOST_PEOPLE; p++) {
                if (where[p] == IN_LINE) {
                    stood[p]++;
                }
            }
        }

        void join(Plan plan, int p) {
            if (p < 0 || p >= MOST_PEOPLE || size < 0 || size >= MOST_PEOPLE) {
                return;
            }
            int place = size > 0 && plan.letsPass(order[0], p) ? 1 : 0;
            for (int i = size; i > place; i--) {
                order[i] = order[i - 1];
            }
            order[place] = p;
            size++;
            where[p] = IN_LINE;
            stood[p] = 0;
        }

        void goToHead(int p) {
            int place = placeOf(p);
            if (p < 0 || p >= MOST_PEOPLE || place < 0 || size > MOST_PEOPLE) {
                return;
            }
            for (int i = place; i < size - 1; i++) {
                order[i] = order[i + 1];
            }
            order[size - 1] = p;
            stood[p] = 0;
        }

        void goAway(int p) {
            int place = placeOf(p);
            if (p < 0 || p >= MOST_PEOPLE || place < 0) {
                return;
            }
            takeOut(place);
            where[p] = AWAY;
        }

        /** Not at the head: nobody stands there to change places with. */
        boolean canYield(int p) {
            int place = placeOf(p);
            return place >= 0 && place < size - 1;
        }

        void yieldPlace(int p) {
            int place = placeOf(p);
            if (place < 0 || place >= size - 1 || size > MOST_PEOPLE) {
                return;
            }
            order[place] = order[place + 1];
            order[place + 1] = p;
        }

        private void giveLoaf(Plan plan, boolean fromHead) {
            int place = placeServed(plan, fromHead);
            int p = whoAt(place);
            if (p < 0 || p >= MOST_PEOPLE) {
                return;
            }
            takeOut(place);
            where[p] = EATEN;
            ateIn[p] = minute;
            warm[p] = Math.max(0, plan.firstWarm - loaves);
            heat += warm[p];
            loaves++;
        }

        private int placeServed(Plan plan, boolean fromHead) {
            for (int i = 0; i < size && size <= MOST_PEOPLE; i++) {
                int place = fromHead ? size - 1 - i : i;
                if (plan.kindOf(order[place]) != PROUD) {
                    return place;
                }
            }
            return fromHead ? size - 1 : 0;
        }

        private void takeOut(int place) {
            if (place < 0 || place >= size || size > MOST_PEOPLE) {
                return;
            }
            size--;
            for (int i = place; i < size; i++) {
                order[i] = order[i + 1];
            }
        }
    }

    /** The latest lines put by, the last on top; a full one drops its oldest. */
    private static final class Shelf {
        private final Line[] lines;
        private int top; // where the next one goes
        private int held;

        Shelf(int most) {
            lines = new Line[Math.max(0, most)];
            for (int i = 0; i < lines.length; i++) {
                lines[i] = new Line();
            }
        }

        void empty() {
            held = 0;
        }

        void push(Line line) {
            if (top < 0 || top >= lines.length || lines[top] == null) {
                return;
            }
            lines[top].copyFrom(line);
            top = top + 1 < lines.length ? top + 1 : 0;
            held = Math.min(held + 1, lines.length);
        }

        boolean popInto(Line line) {
            if (held < 1) {
                return false;
            }
            int last = top > 0 ? top - 1 : lines.length - 1;
            if (last < 0 || last >= lines.length || lines[last] == null) {
                return false;
            }
            line.copyFrom(lines[last]);
            top = last;
            held--;
            return true;
        }
    }

    /** What is SEEN: who has eaten by when, or has not. */
    private static final class Seen {
        private final int[] who = new int[MOST_SEEN];
        private final int[] minutes = new int[MOST_SEEN];
        private final boolean[] ate = new boolean[MOST_SEEN];
        private int size;

        boolean add(int p, int t, boolean has) {
            if (size < 0 || size >= MOST_SEEN) {
                return false;
            }
            who[size] = p;
            minutes[size] = t;
            ate[size] = has;
            size++;
            return true;
        }

        void empty() {
            size = 0;
        }

        /** Runs the line on as far as anything was seen, and says if all of it is so. */
        boolean holdsFor(Plan plan, Line line) {
            int start = line.minute;
            int minutesOn = latest();
            for (int i = 0; i < minutesOn; i++) {
                line.goOn(plan, plan.rumourIn(line.minute), false);
            }
            for (int i = 0; i < size && i < MOST_SEEN; i++) {
                boolean hasEaten = line.whereIs(who[i]) == EATEN && line.ateInOf(who[i]) < start + minutes[i];
                if (hasEaten != ate[i]) {
                    return false;
                }
            }
            return true;
        }

        private int latest() {
            int latest = 0;
            for (int i = 0; i < size && i < MOST_SEEN; i++) {
                latest = Math.max(latest, minutes[i]);
            }
            return latest;
        }
    }

    /** The orders in which those of a family that are still to come could come. */
    private static final class Orders {
        private final int[] members = new int[MOST_KIN];
        private final int[] best = new int[MOST_KIN];
        private int size;

        /** The first order, 0 first; false, if nobody is to come. */
        boolean gather(Plan plan, Line line, int ofKin) {
            size = 0;
            for (int p = 0; p < plan.people && size < MOST_KIN; p++) {
                if (plan.kinOf(p) == ofKin && line.whereIs(p) == NOT_COME) {
                    members[size] = p;
                    size++;
                }
            }
            return size > 0;
        }

        int bestAt(int i) {
            return i >= 0 && i < size && i < MOST_KIN ? best[i] : NONE;
        }

        void markBest() {
            System.arraycopy(members, 0, best, 0, MOST_KIN);
        }

        /** On to the order next behind this one; false, if this one is the last. */
        boolean advance() {
            if (size > MOST_KIN) {
                return false;
            }
            int turn = size - 2;
            while (turn >= 0 && members[turn] > members[turn + 1]) {
                turn--;
            }
            if (turn < 0) {
                return false;
            }
            int larger = size - 1;
            while (larger > turn + 1 && members[larger] < members[turn]) {
                larger--;
            }
            swap(turn, larger);
            for (int low = turn + 1, high = size - 1; low < high; low++, high--) {
                swap(low, high);
            }
            return true;
        }

        private void swap(int i, int j) {
            if (i < 0 || i >= MOST_KIN || j < 0 || j >= MOST_KIN) {
                return;
            }
            int first = members[i];
            members[i] = members[j];
            members[j] = first;
        }

        void tellComings(Plan plan, int first) {
            for (int i = 0; i < size && i < MOST_KIN; i++) {
                plan.setComing(members[i], first + i);
            }
        }

        boolean allAte(Line line) {
            for (int i = 0; i < size && i < MOST_KIN; i++) {
                if (line.whereIs(members[i]) != EATEN) {
                    return false;
                }
            }
            return true;
        }

        int longestWait(Line line, int first) {
            int longest = 0;
            for (int i = 0; i < size && i < MOST_KIN; i++) {
                boolean ate = line.whereIs(members[i]) == EATEN;
                int wait = ate ? line.ateInOf(members[i]) - first - i : MOST_WAITED;
                longest = Math.max(longest, wait);
            }
            return longest;
        }
    }

    /** The line as it is, and what would come, tried on a line and a plan apart from it. */
    private static final class Forecast {
        private final Plan plan = new Plan();
        private final Line now = new Line();
        private final Plan guess = new Plan();
        private final Line trial = new Line();
        private final Orders orders = new Orders();

        void startTrial() {
            trial.copyFrom(now);
        }

        Line lineBehind(int minutes) {
            startTrial();
            trial.run(plan, minutes);
            return trial;
        }

        /** In the trial as it was started: 1 to 99, or more than that for never. */
        int whenEaten(int p, boolean secondBaker) {
            for (int i = 1; i <= MOST_WAITED && trial.whereIs(p) != AWAY; i++) {
                trial.goOn(plan, plan.rumourIn(trial.minute), secondBaker);
                if (trial.whereIs(p) == EATEN) {
                    return i;
                }
            }
            return MOST_WAITED + 1;
        }

        int whoGains(boolean byComingAgain) {
            int bits = 0;
            for (int p = 0; p < plan.people; p++) {
                if (now.whereIs(p) != IN_LINE) {
                    continue;
                }
                startTrial();
                int asItIs = whenEaten(p, false);
                startTrial();
                move(p, byComingAgain);
                if (whenEaten(p, false) < asItIs) {
                    bits |= 1 << p;
                }
            }
            return bits;
        }

        private void move(int p, boolean byComingAgain) {
            if (byComingAgain) {
                trial.goAway(p);
                trial.join(plan, p);
            } else {
                trial.goToHead(p);
            }
        }

        /** The shortest longest wait; the orders have marked by which. */
        int bestOrder() {
            int shortest = MOST_WAITED + 1;
            guess.copyFrom(plan);
            for (int i = 0; i < 120; i++) { // 5 people have 120 orders
                int wait = longestWaitInOrder();
                if (wait < shortest) {
                    shortest = wait;
                    orders.markBest();
                }
                if (!orders.advance()) {
                    break;
                }
            }
            return shortest;
        }

        private int longestWaitInOrder() {
            orders.tellComings(guess, now.minute);
            startTrial();
            for (int i = 0; i < MOST_WAITED && !orders.allAte(trial); i++) {
                trial.goOn(guess, guess.rumourIn(trial.minute), false);
            }
            return orders.longestWait(trial, now.minute);
        }

        int whoSneezed(Seen seen) {
            startTrial();
            int bits = seen.holdsFor(plan, trial) ? AS_IT_IS : 0;
            for (int p = 0; p < plan.people; p++) {
                if (now.whereIs(p) != IN_LINE) {
                    continue;
                }
                startTrial();
                trial.goToHead(p);
                if (seen.holdsFor(plan, trial)) {
                    bits |= 1 << p;
                }
            }
            return bits;
        }

        int whichKinds(Seen seen, int p) {
            int bits = 0;
            guess.copyFrom(plan);
            for (int kind = 0; kind < KINDS_IN_ALL; kind++) {
                guess.setKind(p, kind);
                startTrial();
                if (seen.holdsFor(guess, trial)) {
                    bits |= 1 << kind;
                }
            }
            return bits;
        }

        /** Over 10 to the n: each run of rumours is a mask, its weight a product of n tenths. */
        int chanceOfTenths(int p, int n, int x) {
            int above = 0;
            for (int mask = 0; mask < 1 << n; mask++) {
                int with = Integer.bitCount(mask);
                int weight = power(x, with) * power(10 - x, n - with);
                if (weight > 0 && isFedByRumours(p, n, mask)) {
                    above += weight;
                }
            }
            return above;
        }

        private boolean isFedByRumours(int p, int n, int mask) {
            startTrial();
            for (int i = 0; i < n; i++) {
                trial.goOn(plan, (mask >> i & 1) == 1, false);
            }
            return trial.whereIs(p) == EATEN;
        }

        Line lineBehindDay(int z, int minutes) {
            startTrial();
            for (int k = 0; k < minutes; k++) {
                drawOne(z, k);
                trial.goOn(plan, plan.rumourIn(trial.minute), false);
            }
            return trial;
        }

        private void drawOne(int z, int k) {
            if (plan.people < 1) {
                return;
            }
            long x = 7919L * z + 6151L * k + 1;
            int draw = (int) (x * x % 65521);
            int p = draw / 8 % plan.people;
            switch (draw % 5) {
                case 0:
                    trial.yieldPlace(p);
                    break;
                case 1:
                    trial.goToHead(p);
                    break;
                case 2:
                    trial.goAway(p);
                    break;
                case 3:
                    comeAgain(p);
                    break;
                default:
                    break;
            }
        }

        private void comeAgain(int p) {
            if (trial.whereIs(p) == AWAY) {
                trial.join(plan, p);
            }
        }
    }
}
