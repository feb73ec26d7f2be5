import java.util.Arrays;

/**
 * A road that sings: stretches of grooves that hum under wheels, the cars that go over them and
 * the tunes that they should hear. The promises that it keeps are told in the project's document.
 */
public final class RoadThatSings {
    public static final int NONE = -1;

    private static final int NOBODY = -1;
    private static final int OTHER = -2;
    private static final int NOTHING = -3;
    private static final int BELOW = -4;
    private static final int BEYOND = -5;
    private static final int WRONG = -6;
    private static final int ROOM = -7;
    private static final int REFUSAL_SORTS = 7;

    private static final int GROOVE = 0;
    private static final int EVEN = 1;
    private static final int PAIR = 2;
    private static final int REST = 3;
    private static final int DEEP = 4;
    private static final int SLANT = 5;
    private static final int TOLD = 6;
    private static final int KINDS = 7;
    private static final int[] KIND_ABOVE = {NONE, GROOVE, EVEN, GROOVE, EVEN, PAIR, GROOVE};

    private static final int LONG = 0;
    private static final int NEAR = 1;
    private static final int BORNE = 2;
    private static final int TEMPO = 3;
    private static final int ASKED = 4;
    private static final int[] LEAST_ASKED = {1, 2, 0, 50};
    private static final int[] MOST_ASKED = {9999, 30, 500, 2000};

    private static final int MOST_STRETCHES = 16;
    private static final int MOST_CARS = 6;
    private static final int MOST_TUNES = 6;
    private static final int MOST_NOTES = 12;
    private static final int MOST_SPACE = 60;
    private static final int MOST_TIMES = 60;
    private static final int MOST_SPEED = 99;
    private static final int MOST_BASE = 999;
    private static final int MOST_SHARES = 100;
    private static final int MOST_PITCH = 9999;
    private static final int MOST_BEATS = 16;
    private static final int MOST_HUM = 99999;
    private static final int MOST_OFF = 999;
    private static final int MOST_YEARS = 50;
    private static final int MOST_A_DAY = 200;
    private static final int REST_SPACE = 10;
    private static final int MIRROR_SPEED = 10;

    private static final int SHELVES = 8;
    private static final int SORTS = 4;
    private static final int MOST_ELEMENTS = 160;
    private static final int ROW_HELD = 100;

    private static final int HUMS = 0;
    private static final int LASTS = 1;
    private static final int WEARS = 2;
    private static final int ACTS = 3;
    private static final int[] HUMS_BODIES = {10, 20, 0, 0, 0, 41, 70};
    private static final int[] LASTS_BODIES = {11, 0, 30, 0, 0, 40, 0};
    private static final int[] WEARS_BODIES = {12, 0, 0, 60, 50, 0, 71};
    private static final int TRACE_KEPT = 20;
    private static final int MOST_DEPTH = 40;

    private static final int[] STEPS =
        {1000, 1059, 1122, 1189, 1260, 1335, 1414, 1498, 1587, 1682, 1782, 1888};

    private static final Item[] ITEMS = Item.values();

    private final Road road = new Road();
    private final Road kept = new Road();
    private final Road ahead = new Road();
    private final Shelf[] shelves = new Shelf[SHELVES];
    private final Cutting cutting = new Cutting();
    private final Acting acting = new Acting();
    private final int[] refused = new int[REFUSAL_SORTS + 1];
    private boolean imaged = false;
    private int lastFault = NONE;

    public RoadThatSings() {
        for (int s = 0; s < SHELVES; s++) {
            shelves[s] = new Shelf();
        }
    }

    // ---- SHELVES ----

    public int row(int s, int sort, int n) {
        Shelf shelf = shelfAt(s);
        if (shelf == null) {
            return refuse(NOBODY);
        }
        if (n < 0) {
            return refuse(BELOW);
        }
        if (!within(sort, 0, SORTS - 1)) {
            return refuse(WRONG);
        }
        if (n > MOST_ELEMENTS) {
            return refuse(ROOM);
        }
        shelf.holdRow(sort, n);
        return 1;
    }

    public int set(int s, int i, long v) {
        Shelf shelf = shelfAt(s);
        int refusal = refusalOfRow(shelf);
        if (refusal != 0 || shelf == null) {
            return refuse(refusal);
        }
        if (!shelf.hasElement(i)) {
            return refuse(BEYOND);
        }
        shelf.put(i, v);
        return 1;
    }

    public int copy(int p, int q, int i, int j, int n) {
        Shelf from = shelfAt(p);
        Shelf to = shelfAt(q);
        if (from == null || to == null) {
            return refuse(NOBODY);
        }
        if (from.holdsStretch() || to.holdsStretch() || from.isRowUnlike(to)) {
            return refuse(OTHER);
        }
        if (!from.holdsRow() || !to.holdsRow()) {
            return refuse(NOTHING);
        }
        if (n < 0) {
            return refuse(BELOW);
        }
        if (!from.hasElements(i, n) || !to.hasElements(j, n)) {
            return refuse(BEYOND);
        }
        to.takeFrom(from, i, j, n);
        return 1;
    }

    public long element(int s, int i) {
        Shelf shelf = shelfAt(s);
        return shelf == null ? 0 : shelf.elementAt(i);
    }

    public int show(int s, int stretch) {
        Shelf shelf = shelfAt(s);
        if (shelf == null || stretch != NONE && !road.stretches.has(stretch)) {
            return refuse(NOBODY);
        }
        if (stretch == NONE) {
            shelf.holdNothing();
            return 0;
        }
        shelf.holdStretch(stretch);
        return 1;
    }

    public int holds(int s) {
        Shelf shelf = shelfAt(s);
        return shelf == null ? NONE : shelf.whatIsHeld();
    }

    public int says(int s, int kind) {
        Shelf shelf = shelfAt(s);
        if (shelf == null || !within(kind, 0, KINDS - 1)) {
            return refuse(NOBODY);
        }
        if (shelf.holdsRow()) {
            return refuse(OTHER);
        }
        if (!shelf.holdsStretch()) {
            return refuse(NOTHING);
        }
        int stretch = shelf.stretchHeld();
        if (!isKindUnder(road.stretches.kindOf(stretch), kind)) {
            return refuse(OTHER);
        }
        return road.stretches.sayingOf(stretch, kind);
    }

    // ---- STRETCHES, CARS, TUNES ----

    public int stretch(int kind, int space, int other, int times) {
        if (!within(kind, 0, KINDS - 1)) {
            return refuse(NOBODY);
        }
        if (!areMeasures(space, other, times)) {
            return refuse(WRONG);
        }
        if (road.stretches.isFull()) {
            return refuse(ROOM);
        }
        return road.stretches.add(kind, space, other, times);
    }

    public int stretches(int s, int i, int n) {
        Shelf shelf = shelfAt(s);
        int refusal = refusalOfRow(shelf);
        if (refusal != 0 || shelf == null) {
            return refuse(refusal);
        }
        if (n < 0) {
            return refuse(BELOW);
        }
        if (!shelf.hasElements(i, n)) {
            return refuse(BEYOND);
        }
        if (n % 4 != 0) {
            return refuse(WRONG);
        }
        int came = 0;
        while (came < n / 4 && addStretchFrom(shelf, i + 4 * came)) {
            came++;
        }
        return came;
    }

    private boolean addStretchFrom(Shelf shelf, int i) {
        int kind = shelf.intAt(i);
        int space = shelf.intAt(i + 1);
        int other = shelf.intAt(i + 2);
        int times = shelf.intAt(i + 3);
        if (!within(kind, 0, KINDS - 1) || !areMeasures(space, other, times)) {
            return false;
        }
        return road.stretches.add(kind, space, other, times) != NONE;
    }

    public int till(int n) {
        if (!within(n, 0, road.stretches.count())) {
            return refuse(WRONG);
        }
        road.stretches.leave(n);
        clearShelvesOfGoneStretches();
        return n;
    }

    public int stretchOf(int stretch, int what) {
        Stretches all = road.stretches;
        if (!all.has(stretch)) {
            return refuse(BEYOND);
        }
        switch (what) {
            case 0: return all.kindOf(stretch);
            case 1: return all.spaceOf(stretch);
            case 2: return all.otherOf(stretch);
            case 3: return all.timesOf(stretch);
            case 4: return all.lengthOf(stretch);
            default: return refuse(BEYOND);
        }
    }

    public int car(int speed, int base, int share) {
        if (!isSpeed(speed) || !within(base, 0, MOST_BASE)
            || !within(share, 0, MOST_SHARES - road.cars.shareOfAll())) {
            return refuse(WRONG);
        }
        if (road.cars.isFull()) {
            return refuse(ROOM);
        }
        return road.cars.add(speed, base, share);
    }

    public int carOf(int car, int what) {
        if (!road.cars.has(car)) {
            return refuse(BEYOND);
        }
        switch (what) {
            case 0: return road.cars.speedOf(car);
            case 1: return road.cars.baseOf(car);
            case 2: return road.cars.shareOf(car);
            default: return refuse(BEYOND);
        }
    }

    public int tune(int s, int n) {
        Shelf shelf = shelfAt(s);
        int refusal = refusalOfRow(shelf);
        if (refusal != 0 || shelf == null) {
            return refuse(refusal);
        }
        if (n < 0) {
            return refuse(BELOW);
        }
        if (n > shelf.size() / 2) {
            return refuse(BEYOND);
        }
        if (n > MOST_NOTES || !areNotes(shelf, n)) {
            return refuse(WRONG);
        }
        if (road.tunes.isFull()) {
            return refuse(ROOM);
        }
        int number = road.tunes.begin();
        for (int i = 0; i < n; i++) {
            road.tunes.addNote(shelf.intAt(2 * i), shelf.intAt(2 * i + 1));
        }
        return number;
    }

    private static boolean areNotes(Shelf shelf, int n) {
        for (int i = 0; i < n; i++) {
            if (!within(shelf.intAt(2 * i), 0, MOST_PITCH)
                || !within(shelf.intAt(2 * i + 1), 1, MOST_BEATS)) {
                return false;
            }
        }
        return true;
    }

    public int noteOf(int tune, int note, int what) {
        Tunes all = road.tunes;
        boolean ofAllNotes = all.has(tune) && note == NONE;
        if (!within(what, 0, 1) || !ofAllNotes && !all.hasNote(tune, note)) {
            return refuse(BEYOND);
        }
        if (ofAllNotes) {
            return what == 0 ? all.notesOf(tune) : all.beatsAhead(tune, all.notesOf(tune));
        }
        return what == 0 ? all.pitchOf(tune, note) : all.beatsOf(tune, note);
    }

    public int ask(int what, int v) {
        if (!mayBeAsked(what, v)) {
            return refuse(WRONG);
        }
        int was = road.asked(what);
        road.demand(what, v);
        return was;
    }

    // ---- BOOKS ----

    public int book(int s) {
        Shelf shelf = shelfAt(s);
        int refusal = refusalOfRow(shelf);
        if (refusal != 0 || shelf == null) {
            return refuse(refusal);
        }
        ahead.become(road);
        Reader reader = new Reader(shelf, road);
        int items = reader.readItems();
        lastFault = reader.faultFound();
        if (lastFault != NONE) {
            road.become(ahead);
            return refuse(WRONG);
        }
        return items;
    }

    public int fault() {
        return lastFault;
    }

    // ---- WHAT IS HEARD ----

    public int hum(int stretch, int speed) {
        if (!road.stretches.has(stretch)) {
            return refuse(NOBODY);
        }
        return isSpeed(speed) ? road.stretches.humOf(stretch, speed) : refuse(WRONG);
    }

    public int lasts(int stretch, int speed) {
        if (!road.stretches.has(stretch)) {
            return refuse(NOBODY);
        }
        return isSpeed(speed) ? road.stretches.lastingOf(stretch, speed) : refuse(WRONG);
    }

    public int loud(int stretch, int y) {
        if (!road.stretches.has(stretch)) {
            return refuse(NOBODY);
        }
        return within(y, 0, MOST_YEARS) ? road.stretches.loudnessOf(stretch, y) : refuse(WRONG);
    }

    public int off(int heard, int wanted) {
        if (!within(heard, 0, MOST_HUM) || !within(wanted, 0, MOST_HUM)) {
            return refuse(WRONG);
        }
        return offBetween(heard, wanted);
    }

    public int note(int car, int tune, int note) {
        if (!road.cars.has(car) || !road.tunes.hasNote(tune, note)) {
            return refuse(NOBODY);
        }
        return road.offOfNote(car, tune, note);
    }

    public int hears(int car, int tune, int what) {
        if (!road.cars.has(car) || !road.tunes.has(tune)) {
            return refuse(NOBODY);
        }
        switch (what) {
            case 0: return road.worstOf(car, tune);
            case 1: return road.latenessOf(car, tune);
            case 2: return road.isHeardBy(car, tune) ? 1 : 0;
            default: return refuse(BEYOND);
        }
    }

    public int wrong() {
        if (road.firstTooNear() != NONE) {
            return 1;
        }
        return road.firstTooFar() != NONE ? 2 : 0;
    }

    public int judge() {
        int tooNear = road.firstTooNear();
        return tooNear != NONE ? tooNear : road.firstTooFar();
    }

    public int meet(int base) {
        if (!within(base, 0, MOST_BASE)) {
            return refuse(WRONG);
        }
        int bits = 0;
        for (int i = 0; i < road.stretches.count(); i++) {
            if (road.stretches.isMetBy(i, base)) {
                bits |= 1 << i;
            }
        }
        return bits;
    }

    // ---- WHAT IS MADE OF IT ----

    public int cut(int tune, int note, int speed, int what) {
        if (!road.tunes.hasNote(tune, note)) {
            return refuse(NOBODY);
        }
        if (!within(what, 0, 2)) {
            return refuse(BEYOND);
        }
        if (!isSpeed(speed)) {
            return refuse(WRONG);
        }
        cutting.cutFor(road, tune, speed);
        if (what == 0) {
            return cutting.spaceOf(note);
        }
        return what == 1 ? cutting.timesOf(note) : cutting.offOf(note);
    }

    public int lay(int tune, int speed) {
        int refusal = refusalOfTuneAt(tune, speed);
        if (refusal != 0) {
            return refuse(refusal);
        }
        cutting.cutFor(road, tune, speed);
        road.stretches.leave(0);
        for (int i = 0; i < cutting.notes(); i++) {
            int kind = road.tunes.pitchOf(tune, i) == 0 ? REST : EVEN;
            road.stretches.add(kind, cutting.spaceOf(i), 0, cutting.timesOf(i));
        }
        clearShelvesOfGoneStretches();
        return road.stretches.lengthOfAll();
    }

    public int fits(int tune, int speed) {
        int refusal = refusalOfTuneAt(tune, speed);
        if (refusal != 0) {
            return refuse(refusal);
        }
        return cutFits(tune, speed) ? 1 : 0;
    }

    public int can(int speed) {
        if (!isSpeed(speed)) {
            return refuse(WRONG);
        }
        int bits = 0;
        for (int t = 0; t < road.tunes.count(); t++) {
            if (cutFits(t, speed)) {
                bits |= 1 << t;
            }
        }
        return bits;
    }

    // A cut's SPACES are never below NEAR but for rests, which may be: only LONG can be broken.
    private boolean cutFits(int tune, int speed) {
        cutting.cutFor(road, tune, speed);
        return cutting.lengthOfAll() <= road.asked(LONG)
            && cutting.worstOff() <= road.asked(BORNE);
    }

    public int served(int tune, int speed) {
        int refusal = refusalOfTuneAt(tune, speed);
        return refusal != 0 ? refuse(refusal) : shareServed(tune, speed);
    }

    public int best(int tune) {
        if (!road.tunes.has(tune)) {
            return refuse(NOBODY);
        }
        int bestSpeed = 1;
        int mostServed = NONE;
        for (int speed = 1; speed <= MOST_SPEED; speed++) {
            int share = shareServed(tune, speed);
            if (share > mostServed) {
                mostServed = share;
                bestSpeed = speed;
            }
        }
        return bestSpeed;
    }

    private int shareServed(int tune, int speed) {
        cutting.chooseSpaces(road, tune, speed);
        int share = 0;
        for (int c = 0; c < road.cars.count(); c++) {
            if (cutting.isHeardAt(road, tune, road.cars.speedOf(c))) {
                share += road.cars.shareOf(c);
            }
        }
        return share;
    }

    public int two(int tune, int speed, int other, int fast) {
        Tunes all = road.tunes;
        if (!all.has(tune) || !all.has(other)) {
            return refuse(NOBODY);
        }
        if (!isSpeed(speed) || !isSpeed(fast) || all.notesOf(tune) != all.notesOf(other)) {
            return refuse(WRONG);
        }
        int shared = 0;
        for (int i = 0; i < all.notesOf(tune); i++) {
            if (haveOneSpace(all.pitchOf(tune, i), speed, all.pitchOf(other, i), fast)) {
                shared++;
            }
        }
        return shared;
    }

    private boolean haveOneSpace(int pitch, int speed, int otherPitch, int fast) {
        if (pitch == 0 && otherPitch == 0) {
            return true;
        }
        int borne = road.asked(BORNE);
        for (int space = road.asked(NEAR); space <= MOST_SPACE; space++) {
            if (offBetween(humBy(space, speed), pitch) <= borne
                && offBetween(humBy(space, fast), otherPitch) <= borne) {
                return true;
            }
        }
        return false;
    }

    public int brief(int tune, int speed) {
        int refusal = refusalOfTuneAt(tune, speed);
        if (refusal != 0) {
            return refuse(refusal);
        }
        cutting.chooseSpaces(road, tune, speed);
        int length = 0;
        for (int i = 0; i < cutting.notes(); i++) {
            int due = road.tunes.beatsOf(tune, i) * road.asked(TEMPO);
            length += briefLength(cutting.spaceOf(i), due, speed);
        }
        return length;
    }

    // What the grooves last is cut, so it reaches half of what is due (cut up) just when the
    // way itself, uncut, does.
    private static int briefLength(int space, int due, int speed) {
        long way = (long) ((due + 1) / 2) * 704 * speed;
        long ofOne = (long) space * 10000;
        long times = quotient(way + ofOne - 1, ofOne);
        return (int) (times < 1 ? space : times * space);
    }

    public int scale(int stretch, int speed, int b) {
        if (!road.stretches.has(stretch)) {
            return refuseAs(NOBODY, -11);
        }
        if (!isSpeed(speed) || !within(b, 1, MOST_PITCH)) {
            return refuseAs(WRONG, -16);
        }
        int above = quotient(road.stretches.humOf(stretch, speed) * 1000, b);
        return above == 0 ? NONE : nearestStep(withinOctave(above));
    }

    private static int withinOctave(int above) {
        int moved = above;
        for (int i = 0; i < 32 && moved > 1999; i++) {
            moved = moved / 2;
        }
        for (int i = 0; i < 32 && moved < 1000; i++) {
            moved = moved * 2;
        }
        return moved;
    }

    private static int nearestStep(int above) {
        int nearest = 0;
        for (int i = 1; i < STEPS.length; i++) {
            if (Math.abs(above - STEPS[i]) < Math.abs(above - STEPS[nearest])) {
                nearest = i;
            }
        }
        return nearest;
    }

    public int read(int car) {
        if (!road.cars.has(car)) {
            return refuse(NOBODY);
        }
        if (road.tunes.count() == 0) {
            return refuse(BEYOND);
        }
        int likest = 0;
        int leastWorst = road.worstOf(car, 0);
        for (int t = 1; t < road.tunes.count(); t++) {
            int worst = road.worstOf(car, t);
            if (worst < leastWorst) {
                leastWorst = worst;
                likest = t;
            }
        }
        return likest;
    }

    public int mirror() {
        Stretches all = road.stretches;
        int unlike = 0;
        for (int i = 0; i < all.count() / 2; i++) {
            int last = all.count() - 1 - i;
            if (all.humOf(i, MIRROR_SPEED) != all.humOf(last, MIRROR_SPEED)) {
                unlike++;
            }
        }
        return unlike;
    }

    public int warns(int v) {
        if (!within(v, 0, MOST_HUM)) {
            return refuseAs(WRONG, -16);
        }
        for (int speed = 1; speed <= MOST_SPEED; speed++) {
            for (int i = 0; i < road.stretches.count(); i++) {
                if (road.stretches.humOf(i, speed) >= v) {
                    return speed;
                }
            }
        }
        return NONE;
    }

    public int worn() {
        for (int y = 0; y <= MOST_YEARS; y++) {
            if (!road.stretches.isOneLoud(y)) {
                return y;
            }
        }
        return NONE;
    }

    public int day(int tune, int n) {
        if (!road.tunes.has(tune)) {
            return refuse(NOBODY);
        }
        if (!within(n, 1, MOST_A_DAY)) {
            return refuse(WRONG);
        }
        int hearing = road.hearingCars(tune);
        int heard = 0;
        for (int i = 0; i < n; i++) {
            int car = road.cars.carAtShare(road.draw(MOST_SHARES));
            if (car != NONE && (hearing >> car & 1) == 1) {
                heard++;
            }
        }
        return heard;
    }

    public int seed(int v) {
        int was = road.seedNow();
        road.seedAnew(v);
        return was;
    }

    // ---- ACTS, THE IMAGE, STATUS ----

    public int act(int stretch, int act, int x) {
        acting.forget();
        if (!road.stretches.has(stretch) || !within(act, 0, ACTS - 1)) {
            return 0;
        }
        acting.begin(road.stretches.kindOf(stretch), stretch, road.stretches.spaceOf(stretch));
        return Acting.play(acting, act, acting.kindActing(), x, 0);
    }

    public int trace(int i) {
        return acting.bodyAt(i);
    }

    public int image() {
        kept.become(road);
        imaged = true;
        return road.stretches.count();
    }

    public int restore() {
        if (!imaged) {
            return refuse(WRONG);
        }
        road.become(kept);
        clearShelvesOfGoneStretches();
        return road.stretches.count();
    }

    public int status(int what) {
        switch (what) {
            case 0: return road.stretches.count();
            case 1: return road.cars.count();
            case 2: return road.tunes.count();
            case 3: return road.stretches.lengthOfAll();
            case 4: return road.cars.shareOfAll();
            case 5: return road.seedNow();
            case 6: return acting.bodiesRan();
            default: return within(what, 11, 10 + REFUSAL_SORTS) ? refused[what - 10] : NONE;
        }
    }

    // ---- What the calls share ----

    private int refuse(int refusal) {
        return refuseAs(refusal, refusal);
    }

    private int refuseAs(int refusal, int answer) {
        if (within(refusal, -REFUSAL_SORTS, -1)) {
            refused[-refusal]++;
        }
        return answer;
    }

    private Shelf shelfAt(int s) {
        return within(s, 0, SHELVES - 1) ? shelves[s] : null;
    }

    private static int refusalOfRow(Shelf shelf) {
        if (shelf == null) {
            return NOBODY;
        }
        if (shelf.holdsStretch()) {
            return OTHER;
        }
        return shelf.holdsRow() ? 0 : NOTHING;
    }

    private int refusalOfTuneAt(int tune, int speed) {
        if (!road.tunes.has(tune)) {
            return NOBODY;
        }
        return isSpeed(speed) ? 0 : WRONG;
    }

    private void clearShelvesOfGoneStretches() {
        for (int s = 0; s < SHELVES; s++) {
            Shelf shelf = shelfAt(s);
            if (shelf != null && shelf.holdsStretch()
                && !road.stretches.has(shelf.stretchHeld())) {
                shelf.holdNothing();
            }
        }
    }

    private static boolean within(int v, int least, int most) {
        return v >= least && v <= most;
    }

    private static boolean isSpeed(int speed) {
        return within(speed, 1, MOST_SPEED);
    }

    private static boolean areMeasures(int space, int other, int times) {
        return within(space, 1, MOST_SPACE) && within(other, 0, MOST_SPACE)
            && within(times, 1, MOST_TIMES);
    }

    private static boolean mayBeAsked(int what, int v) {
        return within(what, 0, ASKED - 1) && within(v, LEAST_ASKED[what], MOST_ASKED[what]);
    }

    private static int kindAbove(int kind) {
        return within(kind, 0, KINDS - 1) ? KIND_ABOVE[kind] : NONE;
    }

    private static boolean isKindUnder(int kind, int above) {
        int climbed = kind;
        for (int i = 0; i < KINDS && climbed != NONE; i++) {
            if (climbed == above) {
                return true;
            }
            climbed = kindAbove(climbed);
        }
        return false;
    }

    private static boolean isOfTwoSpaces(int kind) {
        return kind == PAIR || kind == SLANT;
    }

    private static int quotient(int a, int b) {
        return b == 0 ? 0 : a / b;
    }

    private static long quotient(long a, long b) {
        return b == 0 ? 0 : a / b;
    }

    private static int humBy(int space, int speed) {
        return quotient(704 * speed, space);
    }

    private static int offBetween(int heard, int wanted) {
        if (wanted == 0) {
            return heard == 0 ? 0 : MOST_OFF;
        }
        if (heard == 0) {
            return MOST_OFF;
        }
        return Math.min(MOST_OFF, quotient(Math.abs(heard - wanted) * 1000, wanted));
    }

    /** What a SHELF holds: NOTHING, a ROW, or a STRETCH's number. */
    private static final class Shelf {
        private static final int HOLDS_NOTHING = 0;
        private static final int HOLDS_ROW = 1;
        private static final int HOLDS_STRETCH = 2;

        private final long[] elements = new long[MOST_ELEMENTS];
        private int held = HOLDS_NOTHING;
        private int sort = 0;
        private int elementCount = 0;
        private int stretchNumber = NONE;

        boolean holdsRow() {
            return held == HOLDS_ROW;
        }

        boolean holdsStretch() {
            return held == HOLDS_STRETCH;
        }

        int whatIsHeld() {
            if (holdsRow()) {
                return ROW_HELD + sort;
            }
            return holdsStretch() ? stretchNumber : NONE;
        }

        int stretchHeld() {
            return holdsStretch() ? stretchNumber : NONE;
        }

        int size() {
            return elementCount;
        }

        boolean isRowUnlike(Shelf other) {
            return holdsRow() && other.holdsRow() && sort != other.sort;
        }

        void holdNothing() {
            held = HOLDS_NOTHING;
            elementCount = 0;
        }

        void holdStretch(int stretch) {
            held = HOLDS_STRETCH;
            elementCount = 0;
            stretchNumber = stretch;
        }

        void holdRow(int newSort, int n) {
            held = HOLDS_ROW;
            sort = newSort;
            elementCount = Math.max(0, Math.min(n, MOST_ELEMENTS));
            Arrays.fill(elements, 0);
        }

        boolean hasElement(int i) {
            return i >= 0 && i < elementCount && i < MOST_ELEMENTS;
        }

        boolean hasElements(int i, int n) {
            return i >= 0 && n >= 0 && i <= elementCount && n <= elementCount - i;
        }

        void put(int i, long v) {
            if (hasElement(i)) {
                elements[i] = lowestBits(v);
            }
        }

        private long lowestBits(long v) {
            switch (sort) {
                case 0: return (byte) v;
                case 1: return (short) v;
                case 2: return (int) v;
                default: return v;
            }
        }

        long elementAt(int i) {
            return hasElement(i) ? elements[i] : 0;
        }

        int intAt(int i) {
            return hasElement(i) ? (int) elements[i] : 0;
        }

        void takeFrom(Shelf other, int i, int j, int n) {
            if (other.hasElements(i, n) && hasElements(j, n)) {
                System.arraycopy(other.elements, i, elements, j, n);
            }
        }
    }

    /** All that THE IMAGE keeps: THE ROAD with its STRETCHES, CARS, TUNES and the SEED. */
    private static final class Road {
        private final Stretches stretches = new Stretches();
        private final Cars cars = new Cars();
        private final Tunes tunes = new Tunes();
        private final int[] demands = {2000, 4, 20, 200};
        private int drawSeed = 1;

        void become(Road other) {
            stretches.become(other.stretches);
            cars.become(other.cars);
            tunes.become(other.tunes);
            System.arraycopy(other.demands, 0, demands, 0, ASKED);
            drawSeed = other.drawSeed;
        }

        int asked(int what) {
            return within(what, 0, ASKED - 1) ? demands[what] : 0;
        }

        void demand(int what, int v) {
            if (mayBeAsked(what, v)) {
                demands[what] = v;
            }
        }

        int seedNow() {
            return drawSeed;
        }

        void seedAnew(int v) {
            drawSeed = v;
        }

        int draw(int below) {
            drawSeed = drawSeed * 1103515245 + 12345;
            return below <= 0 ? 0 : (drawSeed >>> 16) % below;
        }

        int offOfNote(int car, int tune, int note) {
            if (!stretches.has(note)) {
                return MOST_OFF;
            }
            int heard = stretches.humOf(note, cars.speedOf(car));
            return offBetween(heard, tunes.pitchOf(tune, note));
        }

        int worstOf(int car, int tune) {
            int worst = 0;
            for (int i = 0; i < tunes.notesOf(tune); i++) {
                worst = Math.max(worst, offOfNote(car, tune, i));
            }
            return worst;
        }

        int latenessOf(int car, int tune) {
            int lateness = 0;
            int begins = 0;
            int due = 0;
            for (int i = 0; i < tunes.notesOf(tune); i++) {
                lateness = Math.max(lateness, Math.abs(begins - due));
                begins += stretches.lastingOf(i, cars.speedOf(car));
                due += tunes.beatsOf(tune, i) * asked(TEMPO);
            }
            return lateness;
        }

        boolean isHeardBy(int car, int tune) {
            return worstOf(car, tune) <= asked(BORNE);
        }

        int hearingCars(int tune) {
            int bits = 0;
            for (int c = 0; c < cars.count(); c++) {
                if (worstOf(c, tune) <= asked(BORNE)) {
                    bits |= 1 << c;
                }
            }
            return bits;
        }

        int firstTooNear() {
            for (int i = 0; i < stretches.count(); i++) {
                if (stretches.isNearerThan(i, asked(NEAR))) {
                    return i;
                }
            }
            return NONE;
        }

        int firstTooFar() {
            int end = 0;
            for (int i = 0; i < stretches.count(); i++) {
                end += stretches.lengthOf(i);
                if (end > asked(LONG)) {
                    return i;
                }
            }
            return NONE;
        }
    }

    /** The STRETCHES, one behind the other. */
    private static final class Stretches {
        private final int[] kinds = new int[MOST_STRETCHES];
        private final int[] spaces = new int[MOST_STRETCHES];
        private final int[] others = new int[MOST_STRETCHES];
        private final int[] times = new int[MOST_STRETCHES];
        private int stretchCount = 0;

        void become(Stretches other) {
            System.arraycopy(other.kinds, 0, kinds, 0, MOST_STRETCHES);
            System.arraycopy(other.spaces, 0, spaces, 0, MOST_STRETCHES);
            System.arraycopy(other.others, 0, others, 0, MOST_STRETCHES);
            System.arraycopy(other.times, 0, times, 0, MOST_STRETCHES);
            stretchCount = other.stretchCount;
        }

        int count() {
            return stretchCount;
        }

        boolean has(int i) {
            return i >= 0 && i < stretchCount && i < MOST_STRETCHES;
        }

        boolean isFull() {
            return stretchCount >= MOST_STRETCHES;
        }

        int add(int kind, int space, int other, int often) {
            if (isFull() || stretchCount < 0) {
                return NONE;
            }
            kinds[stretchCount] = kind;
            spaces[stretchCount] = space;
            others[stretchCount] = other;
            times[stretchCount] = often;
            stretchCount++;
            return stretchCount - 1;
        }

        void leave(int n) {
            stretchCount = Math.max(0, Math.min(n, stretchCount));
        }

        int kindOf(int i) {
            return has(i) ? kinds[i] : NONE;
        }

        int spaceOf(int i) {
            return has(i) ? spaces[i] : 0;
        }

        int otherOf(int i) {
            return has(i) ? others[i] : 0;
        }

        int timesOf(int i) {
            return has(i) ? times[i] : 0;
        }

        int spacesTogether(int i) {
            if (!has(i)) {
                return 0;
            }
            return isOfTwoSpaces(kinds[i]) ? spaces[i] + others[i] : spaces[i];
        }

        int lengthOf(int i) {
            int once = kindOf(i) == TOLD ? otherOf(i) : spacesTogether(i);
            return timesOf(i) * once;
        }

        int lengthOfAll() {
            int length = 0;
            for (int i = 0; i < stretchCount; i++) {
                length += lengthOf(i);
            }
            return length;
        }

        int sayingOf(int i, int kind) {
            switch (kind) {
                case GROOVE: return lengthOf(i);
                case PAIR: case SLANT: return spaceOf(i) + otherOf(i);
                case REST: return timesOf(i);
                case TOLD: return otherOf(i);
                default: return spaceOf(i);
            }
        }

        // Of a SLANT the lesser HUM is the one from the left: half of the twofold one.
        int humOf(int i, int speed) {
            if (!has(i) || kindOf(i) == REST) {
                return 0;
            }
            int once = humBy(spacesTogether(i), speed);
            return kindOf(i) == PAIR ? 2 * once : once;
        }

        int lastingOf(int i, int speed) {
            return quotient(lengthOf(i) * 10000, 704 * speed);
        }

        int loudnessOf(int i, int years) {
            return Math.max(0, newLoudnessOf(i) - years / 5);
        }

        private int newLoudnessOf(int i) {
            switch (kindOf(i)) {
                case REST: return 0;
                case DEEP: return 15;
                case SLANT: return 8;
                default: return 10;
            }
        }

        boolean isOneLoud(int years) {
            for (int i = 0; i < stretchCount; i++) {
                if (loudnessOf(i, years) > 0) {
                    return true;
                }
            }
            return false;
        }

        boolean isNearerThan(int i, int near) {
            int kind = kindOf(i);
            if (kind == TOLD || kind == REST) {
                return false;
            }
            boolean otherNearer = isOfTwoSpaces(kind) && otherOf(i) != 0 && otherOf(i) < near;
            return spaceOf(i) < near || otherNearer;
        }

        boolean isMetBy(int i, int base) {
            int together = spacesTogether(i);
            return kindOf(i) != REST && together > 0 && base % together == 0;
        }
    }

    /** The CARS and what share each has of all. */
    private static final class Cars {
        private final int[] speeds = new int[MOST_CARS];
        private final int[] bases = new int[MOST_CARS];
        private final int[] shares = new int[MOST_CARS];
        private int carCount = 0;

        void become(Cars other) {
            System.arraycopy(other.speeds, 0, speeds, 0, MOST_CARS);
            System.arraycopy(other.bases, 0, bases, 0, MOST_CARS);
            System.arraycopy(other.shares, 0, shares, 0, MOST_CARS);
            carCount = other.carCount;
        }

        int count() {
            return carCount;
        }

        boolean has(int i) {
            return i >= 0 && i < carCount && i < MOST_CARS;
        }

        boolean isFull() {
            return carCount >= MOST_CARS;
        }

        int add(int speed, int base, int share) {
            if (isFull() || carCount < 0) {
                return NONE;
            }
            speeds[carCount] = speed;
            bases[carCount] = base;
            shares[carCount] = share;
            carCount++;
            return carCount - 1;
        }

        int speedOf(int i) {
            return has(i) ? speeds[i] : 0;
        }

        int baseOf(int i) {
            return has(i) ? bases[i] : 0;
        }

        int shareOf(int i) {
            return has(i) ? shares[i] : 0;
        }

        int shareOfAll() {
            int share = 0;
            for (int i = 0; i < carCount; i++) {
                share += shareOf(i);
            }
            return share;
        }

        int carAtShare(int drawn) {
            int end = 0;
            for (int i = 0; i < carCount; i++) {
                end += shareOf(i);
                if (drawn < end) {
                    return i;
                }
            }
            return NONE;
        }
    }

    /** The TUNES, each of notes with a PITCH and BEATS. */
    private static final class Tunes {
        private final int[] pitches = new int[MOST_TUNES * MOST_NOTES];
        private final int[] beats = new int[MOST_TUNES * MOST_NOTES];
        private final int[] noteCounts = new int[MOST_TUNES];
        private int tuneCount = 0;

        void become(Tunes other) {
            System.arraycopy(other.pitches, 0, pitches, 0, MOST_TUNES * MOST_NOTES);
            System.arraycopy(other.beats, 0, beats, 0, MOST_TUNES * MOST_NOTES);
            System.arraycopy(other.noteCounts, 0, noteCounts, 0, MOST_TUNES);
            tuneCount = other.tuneCount;
        }

        int count() {
            return tuneCount;
        }

        boolean has(int tune) {
            return tune >= 0 && tune < tuneCount && tune < MOST_TUNES;
        }

        boolean hasNote(int tune, int note) {
            return has(tune) && note >= 0 && note < noteCounts[tune] && note < MOST_NOTES;
        }

        boolean isFull() {
            return tuneCount >= MOST_TUNES;
        }

        int begin() {
            if (isFull() || tuneCount < 0) {
                return NONE;
            }
            noteCounts[tuneCount] = 0;
            tuneCount++;
            return tuneCount - 1;
        }

        boolean mayTakeNote() {
            return has(tuneCount - 1) && notesOf(tuneCount - 1) < MOST_NOTES;
        }

        void addNote(int pitch, int beatCount) {
            int last = tuneCount - 1;
            if (!has(last) || noteCounts[last] < 0 || noteCounts[last] >= MOST_NOTES) {
                return;
            }
            int note = last * MOST_NOTES + noteCounts[last];
            pitches[note] = pitch;
            beats[note] = beatCount;
            noteCounts[last]++;
        }

        int notesOf(int tune) {
            return has(tune) ? noteCounts[tune] : 0;
        }

        int pitchOf(int tune, int note) {
            return hasNote(tune, note) ? pitches[tune * MOST_NOTES + note] : 0;
        }

        int beatsOf(int tune, int note) {
            return hasNote(tune, note) ? beats[tune * MOST_NOTES + note] : 0;
        }

        int beatsAhead(int tune, int note) {
            int sum = 0;
            for (int i = 0; i < note && i < MOST_NOTES; i++) {
                sum += beatsOf(tune, i);
            }
            return sum;
        }
    }

    /** The CUT of a TUNE for a SPEED; its rows are used again for each. */
    private static final class Cutting {
        private final int[] spaces = new int[MOST_NOTES];
        private final int[] offs = new int[MOST_NOTES];
        private final int[] times = new int[MOST_NOTES];
        private int noteCount = 0;

        int notes() {
            return noteCount;
        }

        private boolean has(int note) {
            return note >= 0 && note < noteCount && note < MOST_NOTES;
        }

        int spaceOf(int note) {
            return has(note) ? spaces[note] : 0;
        }

        int offOf(int note) {
            return has(note) ? offs[note] : 0;
        }

        int timesOf(int note) {
            return has(note) ? times[note] : 0;
        }

        void cutFor(Road road, int tune, int speed) {
            chooseSpaces(road, tune, speed);
            chooseTimes(road, tune, speed);
        }

        void chooseSpaces(Road road, int tune, int speed) {
            noteCount = Math.min(MOST_NOTES, road.tunes.notesOf(tune));
            for (int i = 0; i < noteCount; i++) {
                int pitch = road.tunes.pitchOf(tune, i);
                int space = pitch == 0 ? REST_SPACE : spaceFor(pitch, road.asked(NEAR), speed);
                spaces[i] = space;
                offs[i] = pitch == 0 ? 0 : offBetween(humBy(space, speed), pitch);
            }
        }

        // HUMS fall as SPACES grow, so OFF never lessens again behind the first HUM that is not
        // above the pitch.
        private static int spaceFor(int pitch, int near, int speed) {
            int best = near;
            int leastOff = MOST_OFF + 1;
            for (int space = near; space <= MOST_SPACE; space++) {
                int heard = humBy(space, speed);
                int apart = offBetween(heard, pitch);
                if (apart < leastOff) {
                    leastOff = apart;
                    best = space;
                }
                if (heard <= pitch) {
                    return best;
                }
            }
            return best;
        }

        private void chooseTimes(Road road, int tune, int speed) {
            int end = 0;
            int beatsToEnd = 0;
            for (int i = 0; i < noteCount && i < MOST_NOTES; i++) {
                beatsToEnd += road.tunes.beatsOf(tune, i);
                int place = placeOf(beatsToEnd, road.asked(TEMPO), speed);
                times[i] = nearestTimes(place - end, spaces[i]);
                end += times[i] * spaces[i];
            }
        }

        private static int placeOf(int beatCount, int tempo, int speed) {
            return (int) ((long) beatCount * tempo * 704 * speed / 10000);
        }

        private static int nearestTimes(int way, int space) {
            if (way <= 0 || space <= 0) {
                return 1;
            }
            int fewer = way / space;
            int nearest = 2 * (way % space) > space ? fewer + 1 : fewer;
            return Math.max(1, Math.min(nearest, MOST_TIMES));
        }

        int lengthOfAll() {
            int length = 0;
            for (int i = 0; i < noteCount; i++) {
                length += spaceOf(i) * timesOf(i);
            }
            return length;
        }

        int worstOff() {
            int worst = 0;
            for (int i = 0; i < noteCount; i++) {
                worst = Math.max(worst, offOf(i));
            }
            return worst;
        }

        boolean isHeardAt(Road road, int tune, int speed) {
            for (int i = 0; i < noteCount; i++) {
                int pitch = road.tunes.pitchOf(tune, i);
                if (pitch != 0 && offBetween(humBy(spaceOf(i), speed), pitch) > road.asked(BORNE)) {
                    return false;
                }
            }
            return true;
        }
    }

    /** An ITEM of a BOOK: its word, and which KIND it is or what it asks for. */
    private enum Item {
        EVEN_ITEM("even", Item.A_STRETCH, EVEN),
        PAIR_ITEM("pair", Item.A_STRETCH, PAIR),
        REST_ITEM("rest", Item.A_STRETCH, REST),
        DEEP_ITEM("deep", Item.A_STRETCH, DEEP),
        SLANT_ITEM("slant", Item.A_STRETCH, SLANT),
        TOLD_ITEM("told", Item.A_STRETCH, TOLD),
        CAR_ITEM("car", Item.A_CAR, NONE),
        TUNE_ITEM("tune", Item.A_TUNE, NONE),
        NOTE_ITEM("note", Item.A_NOTE, NONE),
        LONG_ITEM("long", Item.A_DEMAND, LONG),
        NEAR_ITEM("near", Item.A_DEMAND, NEAR),
        BORNE_ITEM("borne", Item.A_DEMAND, BORNE),
        TEMPO_ITEM("tempo", Item.A_DEMAND, TEMPO);

        private static final int A_STRETCH = 0;
        private static final int A_CAR = 1;
        private static final int A_TUNE = 2;
        private static final int A_NOTE = 3;
        private static final int A_DEMAND = 4;

        private final String word;
        private final int form;
        private final int number;

        Item(String word, int form, int number) {
            this.word = word;
            this.form = form;
            this.number = number;
        }

        boolean hasOther() {
            return form == A_STRETCH && (number == PAIR || number == SLANT || number == TOLD);
        }
    }

    /** Reads a BOOK's text into a road, up to its FAULT. */
    private static final class Reader {
        private static final int MOST_DIGITS = 4;

        private final Shelf text;
        private final Road told;
        private int at = 0;
        private int faultAt = NONE;

        Reader(Shelf text, Road told) {
            this.text = text;
            this.told = told;
        }

        int faultFound() {
            return faultAt;
        }

        int readItems() {
            int items = 0;
            boolean more = true;
            while (more && items <= MOST_ELEMENTS) {
                if (!readItem()) {
                    return items;
                }
                items++;
                more = text.intAt(at) == ';';
                if (more) {
                    at++;
                }
            }
            if (at < text.size()) {
                faultAt = at;
            }
            return items;
        }

        private boolean failAt(int place) {
            faultAt = place;
            return false;
        }

        private boolean readItem() {
            int from = at;
            Item item = readWord();
            if (item == null) {
                return false;
            }
            if (!mayStand(item)) {
                return failAt(from);
            }
            switch (item.form) {
                case Item.A_STRETCH: return readStretch(item);
                case Item.A_CAR: return readCar();
                case Item.A_TUNE: return told.tunes.begin() != NONE;
                case Item.A_NOTE: return readNote();
                default: return readDemand(item.number);
            }
        }

        // No word begins another, so the one that fits farthest tells where a false one breaks.
        private Item readWord() {
            Item farthest = null;
            int most = 0;
            for (int i = 0; i < ITEMS.length; i++) {
                Item item = ITEMS[i];
                int fitting = lettersFitting(item.word);
                if (fitting > most) {
                    most = fitting;
                    farthest = item;
                }
            }
            at += most;
            if (farthest == null || most < farthest.word.length()) {
                faultAt = at;
                return null;
            }
            return farthest;
        }

        private int lettersFitting(String word) {
            int fitting = 0;
            while (fitting < word.length() && at + fitting < text.size()
                && text.intAt(at + fitting) == word.charAt(fitting)) {
                fitting++;
            }
            return fitting;
        }

        private boolean mayStand(Item item) {
            switch (item.form) {
                case Item.A_STRETCH: return !told.stretches.isFull();
                case Item.A_CAR: return !told.cars.isFull();
                case Item.A_TUNE: return !told.tunes.isFull();
                case Item.A_NOTE: return told.tunes.mayTakeNote();
                default: return true;
            }
        }

        private boolean readStretch(Item item) {
            int space = readNumber(1, MOST_SPACE);
            int other = item.hasOther() && space != NONE ? readNumber(0, MOST_SPACE) : 0;
            if (space == NONE || other == NONE) {
                return false;
            }
            int often = readNumber(1, MOST_TIMES);
            return often != NONE && told.stretches.add(item.number, space, other, often) != NONE;
        }

        private boolean readCar() {
            int speed = readNumber(1, MOST_SPEED);
            int base = speed == NONE ? NONE : readNumber(0, MOST_BASE);
            int left = MOST_SHARES - told.cars.shareOfAll();
            int share = base == NONE ? NONE : readNumber(0, left);
            return share != NONE && told.cars.add(speed, base, share) != NONE;
        }

        private boolean readNote() {
            int pitch = readNumber(0, MOST_PITCH);
            int beatCount = pitch == NONE ? NONE : readNumber(1, MOST_BEATS);
            if (beatCount == NONE) {
                return false;
            }
            told.tunes.addNote(pitch, beatCount);
            return true;
        }

        private boolean readDemand(int what) {
            if (!within(what, 0, ASKED - 1)) {
                return failAt(at);
            }
            int v = readNumber(LEAST_ASKED[what], MOST_ASKED[what]);
            if (v == NONE) {
                return false;
            }
            told.demand(what, v);
            return true;
        }

        /** A blank and a NUMBER; NONE with a FAULT. */
        private int readNumber(int least, int most) {
            if (text.intAt(at) != ' ') {
                faultAt = at;
                return NONE;
            }
            at++;
            int from = at;
            int value = 0;
            while (at - from < MOST_DIGITS && within(text.intAt(at), '0', '9')) {
                value = 10 * value + text.intAt(at) - '0';
                at++;
            }
            if (at == from || !within(value, least, most)) {
                faultAt = from;
                return NONE;
            }
            return value;
        }
    }

    /** An ACT of one STRETCH, and THE TRACE that it leaves. */
    private static final class Acting {
        private final int[] bodies = new int[TRACE_KEPT];
        private int ran = 0;
        private int kind = GROOVE;
        private int stretchNumber = 0;
        private int space = 0;

        void forget() {
            ran = 0;
        }

        void begin(int ofKind, int ofNumber, int ofSpace) {
            kind = ofKind;
            stretchNumber = ofNumber;
            space = ofSpace;
        }

        int kindActing() {
            return kind;
        }

        int bodiesRan() {
            return ran;
        }

        int bodyAt(int i) {
            return i >= 0 && i < ran && i < TRACE_KEPT ? bodies[i] : NONE;
        }

        private void mark(int body) {
            if (ran >= 0 && ran < TRACE_KEPT) {
                bodies[ran] = body;
            }
            ran++;
        }

        private static int bodyOf(int act, int kind) {
            if (!within(kind, 0, KINDS - 1)) {
                return 0;
            }
            if (act == HUMS) {
                return HUMS_BODIES[kind];
            }
            return act == LASTS ? LASTS_BODIES[kind] : WEARS_BODIES[kind];
        }

        private static int kindWithBody(int act, int from) {
            int found = from;
            for (int i = 0; i < KINDS && found != NONE && bodyOf(act, found) == 0; i++) {
                found = kindAbove(found);
            }
            return found;
        }

        /** Runs the body of a KIND for an act, or of the next KIND above that has one. */
        private static int play(Acting self, int act, int from, int x, int depth) {
            int found = kindWithBody(act, from);
            if (found == NONE || depth > MOST_DEPTH) {
                return 0;
            }
            int body = bodyOf(act, found);
            int above = kindAbove(found);
            int deeper = depth + 1;
            int k = self.space;
            self.mark(body);
            switch (body) {
                case 10: return x + self.stretchNumber;
                case 11: return play(self, HUMS, self.kind, x, deeper) * 2;
                case 12: return play(self, LASTS, self.kind, x, deeper)
                    ^ play(self, HUMS, self.kind, x - k, deeper);
                case 20: return play(self, HUMS, above, x, deeper) + k;
                case 30: return play(self, LASTS, above, x, deeper) * 3;
                case 40: return play(self, LASTS, above, x + 1, deeper);
                case 41: return play(self, HUMS, above, x, deeper) - self.stretchNumber;
                case 50: return -play(self, WEARS, above, x, deeper);
                case 60: return play(self, WEARS, above, x, deeper) ^ 5;
                case 70: return play(self, HUMS, above, x, deeper) * 2;
                case 71: return play(self, WEARS, above, x - k, deeper);
                default: return 0;
            }
        }
    }
}
