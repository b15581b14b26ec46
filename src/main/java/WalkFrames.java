/**
 * Frames in which mail is sorted by walks.
 *
 * The public methods look at their arguments, record the state for undo and leave the work to the
 * classes inside. All rows are made in the constructor and used again: no later call makes an object.
 */
public final class WalkFrames {
    public static final int INVALID_ARGUMENT = -1;
    public static final int ILLEGAL_STATE = -2;
    public static final int CAPACITY_EXCEEDED = -3;
    public static final int NONE = -9;

    private static final int CODES = 100;
    private static final int WALKS = 8;
    private static final int CARRIERS = 6;
    private static final int SLOTS = 2;
    private static final int MOST_STATES = 5;
    private static final int MOST_LETTERS = 120;
    private static final int MOST_AT_ONCE = 20;
    private static final int LAST_HOUR = 500;
    private static final int HOURS_AHEAD = 60;
    private static final int MISROUTES_TO_SEND_BACK = 3;
    private static final int ROUNDS_TO_KNOW = 2;
    private static final int FAULT_BASE = -1000;

    private static final int MOST_HOLES = 20;
    private static final int MOST_SPEED = 40;
    private static final int MOST_LOAD = 30;

    private static final int SECOND_CLASS = 0;
    private static final int FIRST_CLASS = 1;

    private static final int BAG = 0;
    private static final int FRAME = 1;
    private static final int OVERFLOW = 2;
    private static final int HAND = 3;
    private static final int DELIVERED = 4;
    private static final int SENT_BACK = 5;

    private static final int RULE_OVERFLOW = 0;
    private static final int RULE_FIRST_CLASS = 1;
    private static final int RULE_MOST_FREE = 2;

    private static final int SET_RULE = 8;
    private static final int SET_SPEED = 9;
    private static final int SET_LOAD = 10;

    private final Moment now = new Moment();
    private final History history = new History();
    private final RangeText text = new RangeText();
    private final Office trial = new Office();
    private final Line line = new Line();

    public WalkFrames() {
    }

    // ---- mail

    public int post(int code, int category, int many) {
        if (!isIn(code, 0, CODES - 1) || !isIn(category, SECOND_CLASS, FIRST_CLASS)
                || !isIn(many, 1, MOST_AT_ONCE)) {
            return INVALID_ARGUMENT;
        }
        int first = now.office.letters.count;
        if (first + many > MOST_LETTERS) {
            return CAPACITY_EXCEEDED;
        }
        history.remember(now);
        for (int i = 0; i < many; i++) {
            now.office.letters.add(code, category, now.office.hour);
        }
        return first;
    }

    public int hour() {
        if (now.office.hour >= LAST_HOUR) {
            return CAPACITY_EXCEEDED;
        }
        history.remember(now);
        now.office.passHour(line);
        return now.office.letters.countIn(OVERFLOW);
    }

    public int setRange(int from, int to, int walk) {
        if (!isIn(from, 0, CODES - 1) || !isIn(to, from, CODES - 1) || !isWalk(walk)) {
            return INVALID_ARGUMENT;
        }
        history.remember(now);
        now.office.ranges.give(from, to, walk);
        return now.office.ranges.countStretches();
    }

    public int set(int what, int value) {
        if (!isIn(what, 0, SET_LOAD) || !isIn(value, leastValue(what), greatestValue(what))) {
            return INVALID_ARGUMENT;
        }
        history.remember(now);
        int previous = now.office.number(what);
        now.office.changeNumber(what, value);
        return previous;
    }

    // ---- carriers

    public int assign(int walk, int carrier) {
        if (!isWalk(walk) || !isIn(carrier, -1, CARRIERS - 1)) {
            return INVALID_ARGUMENT;
        }
        Carriers carriers = now.office.carriers;
        int previous = carriers.ofWalk(walk);
        if (carrier >= 0 && carriers.walk[carrier] != NONE && carriers.walk[carrier] != walk) {
            return ILLEGAL_STATE;
        }
        if (previous >= 0 && carriers.out[previous]) {
            return ILLEGAL_STATE;
        }
        history.remember(now);
        if (previous >= 0) {
            carriers.walk[previous] = NONE;
        }
        if (carrier >= 0) {
            carriers.walk[carrier] = walk;
        }
        return previous;
    }

    public int goOut(int carrier) {
        if (!isCarrier(carrier)) {
            return INVALID_ARGUMENT;
        }
        if (!now.office.canGoOut(carrier)) {
            return ILLEGAL_STATE;
        }
        history.remember(now);
        return now.office.sendOut(carrier, line);
    }

    public int comeBack(int carrier) {
        if (!isCarrier(carrier)) {
            return INVALID_ARGUMENT;
        }
        if (!now.office.carriers.out[carrier]) {
            return ILLEGAL_STATE;
        }
        history.remember(now);
        return now.office.bringBack(carrier, line);
    }

    // ---- snapshots

    public int take(int slot) {
        if (!isSlot(slot)) {
            return INVALID_ARGUMENT;
        }
        history.remember(now);
        now.fillSlot(slot);
        return now.office.hour;
    }

    public int restore(int slot) {
        if (!isSlot(slot)) {
            return INVALID_ARGUMENT;
        }
        if (!now.filled[slot]) {
            return ILLEGAL_STATE;
        }
        history.remember(now);
        now.office.copyFrom(now.slots[slot]);
        return now.office.hour;
    }

    public int undo() {
        if (history.depth == 0) {
            return ILLEGAL_STATE;
        }
        history.giveBack(now);
        return history.depth;
    }

    // ---- text

    public int append(int character) {
        if (!isIn(character, 1, 255)) {
            return INVALID_ARGUMENT;
        }
        if (text.isFull()) {
            return CAPACITY_EXCEEDED;
        }
        text.add((char) character);
        return text.length;
    }

    public int clearText() {
        int previous = text.length;
        text.length = 0;
        return previous;
    }

    public int setRanges() {
        int fault = text.read();
        if (fault != NONE) {
            return FAULT_BASE - fault;
        }
        if (text.hasReversedRange()) {
            return INVALID_ARGUMENT;
        }
        history.remember(now);
        for (int i = 0; i < text.ranges; i++) {
            now.office.ranges.give(text.from[i], text.to[i], text.walk[i]);
        }
        text.length = 0;
        return text.ranges;
    }

    // ---- looking

    public int count(int what) {
        if (isIn(what, BAG, SENT_BACK)) {
            return now.office.letters.countIn(what);
        }
        switch (what) {
            case 6: return now.office.letters.count;
            case 7: return now.office.hour;
            case 8: return now.office.ranges.countStretches();
            case 9: return now.office.carriers.countOut();
            case 10: return now.office.countStrayLetters();
            case 11: return now.office.letters.countMisroutes();
            case 12: return now.office.carriers.countRounds();
            case 13: return now.office.rule;
            case 14: return now.office.speed;
            case 15: return now.office.load;
            case 16: return now.countSnapshots();
            case 17: return history.depth;
            case 18: return text.length;
            default: return INVALID_ARGUMENT;
        }
    }

    public int letter(int letter, int what) {
        Letters letters = now.office.letters;
        if (!letters.has(letter)) {
            return INVALID_ARGUMENT;
        }
        switch (what) {
            case 0: return letters.code[letter];
            case 1: return letters.category[letter];
            case 2: return letters.place[letter];
            case 3: return letters.place[letter] == FRAME ? letters.keeper[letter] : NONE;
            case 4: return letters.place[letter] == HAND ? letters.keeper[letter] : NONE;
            case 5: return letters.misroutes[letter];
            case 6: return letters.came[letter];
            case 7: return letters.ended[letter];
            case 8: return now.office.walkOf(letter);
            default: return INVALID_ARGUMENT;
        }
    }

    public int frame(int walk, int what) {
        if (!isWalk(walk)) {
            return INVALID_ARGUMENT;
        }
        switch (what) {
            case 0: return now.office.holes[walk];
            case 1: return now.office.letters.framed[walk];
            case 2: return now.office.freeHoles(walk);
            case 3: return now.office.letters.countFirstClass(walk);
            case 4: return now.office.carriers.ofWalk(walk);
            default: return INVALID_ARGUMENT;
        }
    }

    public int carrier(int carrier, int what) {
        if (!isCarrier(carrier)) {
            return INVALID_ARGUMENT;
        }
        Carriers carriers = now.office.carriers;
        switch (what) {
            case 0: return carriers.walk[carrier];
            case 1: return carriers.out[carrier] ? 1 : 0;
            case 2: return now.office.letters.countInHand(carrier);
            case 3: return carriers.delivered[carrier];
            default: return INVALID_ARGUMENT;
        }
    }

    public int rounds(int carrier, int walk) {
        if (!isCarrier(carrier) || !isWalk(walk)) {
            return INVALID_ARGUMENT;
        }
        return now.office.carriers.roundsOn(carrier, walk);
    }

    public int stretch(int code, int what) {
        if (!isIn(code, 0, CODES - 1)) {
            return INVALID_ARGUMENT;
        }
        switch (what) {
            case 0: return now.office.ranges.walkOf(code);
            case 1: return now.office.ranges.firstCode(code);
            case 2: return now.office.ranges.lastCode(code);
            default: return INVALID_ARGUMENT;
        }
    }

    public int inBag(int place) {
        if (place < 0) {
            return INVALID_ARGUMENT;
        }
        now.office.letters.listBag(line);
        return line.letterAt(place);
    }

    public int inFrame(int walk, int place) {
        if (!isWalk(walk) || place < 0) {
            return INVALID_ARGUMENT;
        }
        now.office.letters.listByCode(FRAME, walk, line);
        return line.letterAt(place);
    }

    // ---- what could be, which changes nothing

    public int clearIn() {
        trial.copyFrom(now.office);
        for (int hours = 0; hours <= HOURS_AHEAD; hours++) {
            if (trial.isCleared()) {
                return hours;
            }
            if (trial.passHour(line) == 0) {
                // The frames are as they were, so every later hour goes like this one.
                return NONE;
            }
        }
        return NONE;
    }

    public int wouldOverflow(int rule) {
        if (!isIn(rule, RULE_OVERFLOW, RULE_MOST_FREE)) {
            return INVALID_ARGUMENT;
        }
        trial.copyFrom(now.office);
        trial.rule = rule;
        trial.passHour(line);
        return trial.letters.countIn(OVERFLOW);
    }

    public int bestCarrier(int walk) {
        if (!isWalk(walk)) {
            return INVALID_ARGUMENT;
        }
        return now.office.carriers.bestWithoutWalk(walk);
    }

    public int wouldDeliver(int carrier) {
        if (!isCarrier(carrier)) {
            return INVALID_ARGUMENT;
        }
        boolean out = now.office.carriers.out[carrier];
        if (!out && !now.office.canGoOut(carrier)) {
            return ILLEGAL_STATE;
        }
        trial.copyFrom(now.office);
        if (!out) {
            trial.sendOut(carrier, line);
        }
        return trial.bringBack(carrier, line);
    }

    // ---- arguments

    private static boolean isIn(int value, int least, int greatest) {
        return value >= least && value <= greatest;
    }

    private static boolean isWalk(int walk) {
        return walk >= 0 && walk < WALKS;
    }

    private static boolean isCarrier(int carrier) {
        return carrier >= 0 && carrier < CARRIERS;
    }

    private static boolean isSlot(int slot) {
        return slot >= 0 && slot < SLOTS;
    }

    private static int leastValue(int what) {
        return what == SET_RULE ? RULE_OVERFLOW : 1;
    }

    private static int greatestValue(int what) {
        switch (what) {
            case SET_RULE: return RULE_MOST_FREE;
            case SET_SPEED: return MOST_SPEED;
            case SET_LOAD: return MOST_LOAD;
            default: return MOST_HOLES;
        }
    }

    /** Letters in an order. One line serves all calls, each of which fills it anew. */
    private static final class Line {
        private final int[] letters = new int[MOST_LETTERS];
        private int size;

        void addLast(int letter) {
            if (size < letters.length) {
                letters[size] = letter;
                size++;
            }
        }

        void swapWithPrevious(int place) {
            if (place > 0 && place < size) {
                int letter = letters[place];
                letters[place] = letters[place - 1];
                letters[place - 1] = letter;
            }
        }

        int letterAt(int place) {
            return place >= 0 && place < size ? letters[place] : NONE;
        }
    }

    /** The walk to which each street code belongs. */
    private static final class Ranges {
        private static final int[] FIRST_CODES = {0, 13, 25, 38, 50, 63, 75, 88};

        private final int[] walk = new int[CODES];

        Ranges() {
            for (int i = 0; i < FIRST_CODES.length; i++) {
                give(FIRST_CODES[i], CODES - 1, i);
            }
        }

        void copyFrom(Ranges other) {
            System.arraycopy(other.walk, 0, walk, 0, CODES);
        }

        int walkOf(int code) {
            return isIn(code, 0, CODES - 1) ? walk[code] : NONE;
        }

        void give(int from, int to, int newWalk) {
            for (int code = Math.max(from, 0); code <= to && code < CODES; code++) {
                walk[code] = newWalk;
            }
        }

        int countStretches() {
            int stretches = 1;
            for (int code = 1; code < CODES; code++) {
                if (walk[code] != walk[code - 1]) {
                    stretches++;
                }
            }
            return stretches;
        }

        int firstCode(int code) {
            int first = code;
            while (first > 0 && first < CODES && walk[first - 1] == walk[first]) {
                first--;
            }
            return first;
        }

        int lastCode(int code) {
            int last = code;
            while (last >= 0 && last < CODES - 1 && walk[last + 1] == walk[last]) {
                last++;
            }
            return last;
        }
    }

    /** All letters, and where each of them is. */
    private static final class Letters {
        private final int[] code = new int[MOST_LETTERS];
        private final int[] category = new int[MOST_LETTERS];
        private final int[] misroutes = new int[MOST_LETTERS];
        private final int[] place = new int[MOST_LETTERS];
        /** The walk of the frame or the carrier of the hand in which the letter is. */
        private final int[] keeper = new int[MOST_LETTERS];
        private final int[] came = new int[MOST_LETTERS];
        private final int[] ended = new int[MOST_LETTERS];
        /** The number of letters in the frame of each walk. */
        private final int[] framed = new int[WALKS];
        private int count;

        void copyFrom(Letters other) {
            System.arraycopy(other.code, 0, code, 0, MOST_LETTERS);
            System.arraycopy(other.category, 0, category, 0, MOST_LETTERS);
            System.arraycopy(other.misroutes, 0, misroutes, 0, MOST_LETTERS);
            System.arraycopy(other.place, 0, place, 0, MOST_LETTERS);
            System.arraycopy(other.keeper, 0, keeper, 0, MOST_LETTERS);
            System.arraycopy(other.came, 0, came, 0, MOST_LETTERS);
            System.arraycopy(other.ended, 0, ended, 0, MOST_LETTERS);
            System.arraycopy(other.framed, 0, framed, 0, WALKS);
            count = other.count;
        }

        boolean has(int letter) {
            return letter >= 0 && letter < count;
        }

        void add(int newCode, int newCategory, int presentHour) {
            if (count < MOST_LETTERS) {
                code[count] = newCode;
                category[count] = newCategory;
                misroutes[count] = 0;
                place[count] = BAG;
                keeper[count] = NONE;
                came[count] = presentHour;
                ended[count] = NONE;
                count++;
            }
        }

        void moveTo(int letter, int newPlace, int newKeeper) {
            if (!has(letter)) {
                return;
            }
            if (place[letter] == FRAME && isWalk(keeper[letter])) {
                framed[keeper[letter]]--;
            }
            place[letter] = newPlace;
            keeper[letter] = newKeeper;
            if (newPlace == FRAME && isWalk(newKeeper)) {
                framed[newKeeper]++;
            }
        }

        void finish(int letter, int newPlace, int presentHour) {
            if (has(letter)) {
                moveTo(letter, newPlace, NONE);
                ended[letter] = presentHour;
            }
        }

        void misroute(int letter, int presentHour) {
            if (!has(letter)) {
                return;
            }
            misroutes[letter]++;
            if (misroutes[letter] >= MISROUTES_TO_SEND_BACK) {
                finish(letter, SENT_BACK, presentHour);
            } else {
                moveTo(letter, BAG, NONE);
            }
        }

        boolean isFirstClass(int letter) {
            return has(letter) && category[letter] == FIRST_CLASS;
        }

        void emptyOverflow() {
            for (int letter = 0; letter < count; letter++) {
                if (place[letter] == OVERFLOW) {
                    moveTo(letter, BAG, NONE);
                }
            }
        }

        int countIn(int wantedPlace) {
            int found = 0;
            for (int letter = 0; letter < count; letter++) {
                if (place[letter] == wantedPlace) {
                    found++;
                }
            }
            return found;
        }

        int countInHand(int carrier) {
            int found = 0;
            for (int letter = 0; letter < count; letter++) {
                if (isAt(letter, HAND, carrier)) {
                    found++;
                }
            }
            return found;
        }

        int countFirstClass(int walk) {
            int found = 0;
            for (int letter = 0; letter < count; letter++) {
                if (isAt(letter, FRAME, walk) && isFirstClass(letter)) {
                    found++;
                }
            }
            return found;
        }

        int countMisroutes() {
            int sum = 0;
            for (int letter = 0; letter < count; letter++) {
                sum += misroutes[letter];
            }
            return sum;
        }

        /** Answers whether a letter of the second class was in the frame, and makes room by the last of them. */
        boolean displaceSecondClass(int walk) {
            for (int letter = count - 1; letter >= 0; letter--) {
                if (isAt(letter, FRAME, walk) && !isFirstClass(letter)) {
                    moveTo(letter, OVERFLOW, NONE);
                    return true;
                }
            }
            return false;
        }

        void listBag(Line line) {
            line.size = 0;
            for (int wanted = FIRST_CLASS; wanted >= SECOND_CLASS; wanted--) {
                // A letter with as many misroutes as send it back is never in the bag.
                for (int misrouted = MISROUTES_TO_SEND_BACK - 1; misrouted >= 0; misrouted--) {
                    addFromBag(wanted, misrouted, line);
                }
            }
        }

        private void addFromBag(int wantedCategory, int wantedMisroutes, Line line) {
            for (int letter = 0; letter < count; letter++) {
                if (place[letter] == BAG && category[letter] == wantedCategory
                        && misroutes[letter] == wantedMisroutes) {
                    line.addLast(letter);
                }
            }
        }

        void listByCode(int wantedPlace, int wantedKeeper, Line line) {
            line.size = 0;
            for (int letter = 0; letter < count; letter++) {
                if (isAt(letter, wantedPlace, wantedKeeper)) {
                    insertByCode(letter, line);
                }
            }
        }

        private void insertByCode(int letter, Line line) {
            line.addLast(letter);
            int at = line.size - 1;
            while (at > 0 && hasGreaterCode(line.letterAt(at - 1), letter)) {
                line.swapWithPrevious(at);
                at--;
            }
        }

        private boolean hasGreaterCode(int letter, int other) {
            return has(letter) && has(other) && code[letter] > code[other];
        }

        private boolean isAt(int letter, int wantedPlace, int wantedKeeper) {
            return has(letter) && place[letter] == wantedPlace && keeper[letter] == wantedKeeper;
        }
    }

    /** The carriers, their walks and what they have done. */
    private static final class Carriers {
        private final int[] walk = new int[CARRIERS];
        private final boolean[] out = new boolean[CARRIERS];
        private final int[] delivered = new int[CARRIERS];
        private final int[] roundsMade = new int[CARRIERS * WALKS];

        Carriers() {
            for (int carrier = 0; carrier < CARRIERS; carrier++) {
                walk[carrier] = NONE;
            }
        }

        void copyFrom(Carriers other) {
            System.arraycopy(other.walk, 0, walk, 0, CARRIERS);
            System.arraycopy(other.out, 0, out, 0, CARRIERS);
            System.arraycopy(other.delivered, 0, delivered, 0, CARRIERS);
            System.arraycopy(other.roundsMade, 0, roundsMade, 0, CARRIERS * WALKS);
        }

        int ofWalk(int wantedWalk) {
            for (int carrier = 0; carrier < CARRIERS; carrier++) {
                if (walk[carrier] == wantedWalk) {
                    return carrier;
                }
            }
            return NONE;
        }

        int countOut() {
            int found = 0;
            for (int carrier = 0; carrier < CARRIERS; carrier++) {
                if (out[carrier]) {
                    found++;
                }
            }
            return found;
        }

        int countRounds() {
            int sum = 0;
            for (int i = 0; i < roundsMade.length; i++) {
                sum += roundsMade[i];
            }
            return sum;
        }

        int roundsOn(int carrier, int wantedWalk) {
            return isCarrier(carrier) && isWalk(wantedWalk) ? roundsMade[carrier * WALKS + wantedWalk] : 0;
        }

        boolean knows(int carrier, int wantedWalk) {
            return roundsOn(carrier, wantedWalk) >= ROUNDS_TO_KNOW;
        }

        void endRound(int carrier, int letters) {
            if (isCarrier(carrier) && isWalk(walk[carrier])) {
                out[carrier] = false;
                delivered[carrier] += letters;
                roundsMade[carrier * WALKS + walk[carrier]]++;
            }
        }

        int bestWithoutWalk(int wantedWalk) {
            int best = NONE;
            for (int carrier = 0; carrier < CARRIERS; carrier++) {
                if (walk[carrier] == NONE
                        && (best == NONE || roundsOn(carrier, wantedWalk) > roundsOn(best, wantedWalk))) {
                    best = carrier;
                }
            }
            return best;
        }
    }

    /** What a snapshot keeps: everything but the text, the slots and the history. */
    private static final class Office {
        private final Ranges ranges = new Ranges();
        private final Letters letters = new Letters();
        private final Carriers carriers = new Carriers();
        private final int[] holes = new int[WALKS];
        private int hour;
        private int rule = RULE_OVERFLOW;
        private int speed = 10;
        private int load = 8;

        Office() {
            for (int walk = 0; walk < WALKS; walk++) {
                holes[walk] = 6;
            }
        }

        void copyFrom(Office other) {
            ranges.copyFrom(other.ranges);
            letters.copyFrom(other.letters);
            carriers.copyFrom(other.carriers);
            System.arraycopy(other.holes, 0, holes, 0, WALKS);
            hour = other.hour;
            rule = other.rule;
            speed = other.speed;
            load = other.load;
        }

        int number(int what) {
            switch (what) {
                case SET_RULE: return rule;
                case SET_SPEED: return speed;
                case SET_LOAD: return load;
                default: return isWalk(what) ? holes[what] : NONE;
            }
        }

        void changeNumber(int what, int value) {
            switch (what) {
                case SET_RULE: rule = value; break;
                case SET_SPEED: speed = value; break;
                case SET_LOAD: load = value; break;
                default:
                    if (isWalk(what)) {
                        holes[what] = value;
                    }
            }
        }

        int walkOf(int letter) {
            return letters.has(letter) ? ranges.walkOf(letters.code[letter]) : NONE;
        }

        int freeHoles(int walk) {
            return isWalk(walk) ? Math.max(holes[walk] - letters.framed[walk], 0) : 0;
        }

        int countStrayLetters() {
            int found = 0;
            for (int letter = 0; letter < letters.count; letter++) {
                if (letters.place[letter] == FRAME && letters.keeper[letter] != walkOf(letter)) {
                    found++;
                }
            }
            return found;
        }

        boolean isCleared() {
            return letters.countIn(BAG) == 0 && letters.countIn(OVERFLOW) == 0;
        }

        /** Answers how many letters went into a frame. */
        int passHour(Line line) {
            hour++;
            letters.emptyOverflow();
            letters.listBag(line);
            int many = Math.min(speed, line.size);
            int intoFrames = 0;
            for (int i = 0; i < many; i++) {
                if (sort(line.letterAt(i))) {
                    intoFrames++;
                }
            }
            return intoFrames;
        }

        /** Answers whether the letter went into a frame. */
        private boolean sort(int letter) {
            int target = frameFor(letter);
            if (target == NONE) {
                letters.moveTo(letter, OVERFLOW, NONE);
                return false;
            }
            letters.moveTo(letter, FRAME, target);
            return true;
        }

        private int frameFor(int letter) {
            int walk = walkOf(letter);
            if (freeHoles(walk) > 0) {
                return walk;
            }
            if (rule == RULE_FIRST_CLASS && letters.isFirstClass(letter)) {
                return letters.displaceSecondClass(walk) ? walk : NONE;
            }
            return rule == RULE_MOST_FREE ? walkWithMostFree() : NONE;
        }

        private int walkWithMostFree() {
            int best = NONE;
            int most = 0;
            for (int walk = 0; walk < WALKS; walk++) {
                if (freeHoles(walk) > most) {
                    best = walk;
                    most = freeHoles(walk);
                }
            }
            return best;
        }

        boolean canGoOut(int carrier) {
            int walk = carriers.walk[carrier];
            return isWalk(walk) && !carriers.out[carrier] && letters.framed[walk] > 0;
        }

        /** Only for a carrier that can go out; answers how many letters it takes. */
        int sendOut(int carrier, Line line) {
            letters.listByCode(FRAME, carriers.walk[carrier], line);
            int many = Math.min(load, line.size);
            for (int i = 0; i < many; i++) {
                letters.moveTo(line.letterAt(i), HAND, carrier);
            }
            carriers.out[carrier] = true;
            return many;
        }

        /**
         * Only for a carrier that is out, which always has a walk; answers how many letters are delivered.
         * The letters were taken by code and number, so this order is the one in which they leave the hand.
         */
        int bringBack(int carrier, Line line) {
            int walk = carriers.walk[carrier];
            letters.listByCode(HAND, carrier, line);
            int many = countBelonging(line, walk);
            if (!carriers.knows(carrier, walk)) {
                many = (many + 1) / 2;
            }
            int left = many;
            for (int i = 0; i < line.size; i++) {
                int letter = line.letterAt(i);
                if (walkOf(letter) != walk) {
                    letters.misroute(letter, hour);
                } else if (left > 0) {
                    letters.finish(letter, DELIVERED, hour);
                    left--;
                } else {
                    putBack(letter, walk);
                }
            }
            carriers.endRound(carrier, many);
            return many;
        }

        private int countBelonging(Line line, int walk) {
            int found = 0;
            for (int i = 0; i < line.size; i++) {
                if (walkOf(line.letterAt(i)) == walk) {
                    found++;
                }
            }
            return found;
        }

        private void putBack(int letter, int walk) {
            if (freeHoles(walk) > 0) {
                letters.moveTo(letter, FRAME, walk);
            } else {
                letters.moveTo(letter, OVERFLOW, NONE);
            }
        }
    }

    /** What a state of the history keeps: everything but the text and the history. */
    private static final class Moment {
        private final Office office = new Office();
        private final Office[] slots = new Office[SLOTS];
        private final boolean[] filled = new boolean[SLOTS];

        Moment() {
            for (int slot = 0; slot < SLOTS; slot++) {
                slots[slot] = new Office();
            }
        }

        void copyFrom(Moment other) {
            office.copyFrom(other.office);
            for (int slot = 0; slot < SLOTS; slot++) {
                filled[slot] = other.filled[slot];
                if (filled[slot]) {
                    slots[slot].copyFrom(other.slots[slot]);
                }
            }
        }

        void fillSlot(int slot) {
            slots[slot].copyFrom(office);
            filled[slot] = true;
        }

        int countSnapshots() {
            int found = 0;
            for (int slot = 0; slot < SLOTS; slot++) {
                if (filled[slot]) {
                    found++;
                }
            }
            return found;
        }
    }

    /** The latest states, the oldest one first. */
    private static final class History {
        private final Moment[] moments = new Moment[MOST_STATES];
        private int depth;

        History() {
            for (int i = 0; i < MOST_STATES; i++) {
                moments[i] = new Moment();
            }
        }

        void remember(Moment now) {
            if (depth >= MOST_STATES) {
                dropOldest();
            }
            moments[depth].copyFrom(now);
            depth++;
        }

        private void dropOldest() {
            Moment oldest = moments[0];
            for (int i = 1; i < MOST_STATES; i++) {
                moments[i - 1] = moments[i];
            }
            // Its rows serve for the next state.
            moments[MOST_STATES - 1] = oldest;
            depth--;
        }

        void giveBack(Moment now) {
            if (depth > 0) {
                depth--;
                now.copyFrom(moments[depth]);
            }
        }
    }

    /** The text, and the ranges that were read from it last. */
    private static final class RangeText {
        private static final int MOST_SIGNS = 80;
        /** A range and the sign behind it are at least six signs; the last row is for one that breaks off. */
        private static final int MOST_RANGES = MOST_SIGNS / 6 + 1;

        private final char[] signs = new char[MOST_SIGNS];
        private int length;
        private final int[] from = new int[MOST_RANGES];
        private final int[] to = new int[MOST_RANGES];
        private final int[] walk = new int[MOST_RANGES];
        private int ranges;
        private int next;
        private boolean broken;

        boolean isFull() {
            return length >= MOST_SIGNS;
        }

        void add(char sign) {
            if (length < MOST_SIGNS) {
                signs[length] = sign;
                length++;
            }
        }

        /** Reads the ranges; answers the fault of the text, or NONE. */
        int read() {
            next = 0;
            broken = false;
            ranges = 0;
            for (int i = 0; i < MOST_RANGES && !broken; i++) {
                readRange();
                if (!broken && next == length) {
                    return NONE;
                }
                readSign(';');
            }
            return next;
        }

        private void readRange() {
            int first = readNumber();
            readSign('-');
            int last = readNumber();
            readSign('=');
            int owner = readDigit('7');
            if (!broken && ranges < MOST_RANGES) {
                from[ranges] = first;
                to[ranges] = last;
                walk[ranges] = owner;
                ranges++;
            }
        }

        private int readNumber() {
            int number = readDigit('9');
            if (number != 0 && isNextIn('0', '9')) {
                number = number * 10 + readDigit('9');
            }
            return number;
        }

        private int readDigit(char greatest) {
            if (broken || !isNextIn('0', greatest)) {
                broken = true;
                return 0;
            }
            int digit = signs[next] - '0';
            next++;
            return digit;
        }

        private void readSign(char sign) {
            if (broken || !isNextIn(sign, sign)) {
                broken = true;
            } else {
                next++;
            }
        }

        private boolean isNextIn(char least, char greatest) {
            return next < length && signs[next] >= least && signs[next] <= greatest;
        }

        boolean hasReversedRange() {
            for (int i = 0; i < ranges; i++) {
                if (from[i] > to[i]) {
                    return true;
                }
            }
            return false;
        }
    }
}
