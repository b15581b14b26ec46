import java.util.ArrayDeque;
import java.util.ArrayList;
import java.util.Arrays;
import java.util.Comparator;
import java.util.Deque;
import java.util.HashMap;
import java.util.List;
import java.util.Map;
import java.util.regex.Matcher;
import java.util.regex.Pattern;

/** The document once more, in the plainest form: states that are copied whole, and lists that are sorted. */
final class Model {
    private static final int INVALID = -1;
    private static final int STATE = -2;
    private static final int FULL = -3;
    private static final int NONE = -9;

    private static final class Letter {
        int number, code, category, misroutes, came;
        int place = 0;
        int keeper = NONE;
        int ended = NONE;

        Letter copy() {
            Letter l = new Letter();
            l.number = number;
            l.code = code;
            l.category = category;
            l.misroutes = misroutes;
            l.came = came;
            l.place = place;
            l.keeper = keeper;
            l.ended = ended;
            return l;
        }
    }

    private static final class Carrier {
        int walk = NONE;
        int delivered = 0;
        boolean out = false;
        List<Integer> hand = new ArrayList<>();
        Map<Integer, Integer> rounds = new HashMap<>();

        Carrier copy() {
            Carrier c = new Carrier();
            c.walk = walk;
            c.delivered = delivered;
            c.out = out;
            c.hand = new ArrayList<>(hand);
            c.rounds = new HashMap<>(rounds);
            return c;
        }

        int roundsOn(int wanted) {
            return rounds.getOrDefault(wanted, 0);
        }
    }

    private static final class State {
        int[] owner = new int[100];
        int[] holes = {6, 6, 6, 6, 6, 6, 6, 6};
        int rule = 0;
        int speed = 10;
        int load = 8;
        int hour = 0;
        int roundsBack = 0;
        int misroutes = 0;
        List<Letter> letters = new ArrayList<>();
        List<Carrier> carriers = new ArrayList<>();
        State[] slots = new State[2];

        State copy() {
            State s = new State();
            s.owner = owner.clone();
            s.holes = holes.clone();
            s.rule = rule;
            s.speed = speed;
            s.load = load;
            s.hour = hour;
            s.roundsBack = roundsBack;
            s.misroutes = misroutes;
            letters.forEach(l -> s.letters.add(l.copy()));
            carriers.forEach(c -> s.carriers.add(c.copy()));
            s.slots = slots.clone();
            return s;
        }

        int belongs(Letter l) {
            return owner[l.code];
        }

        List<Letter> where(int place, int keeper) {
            return letters.stream().filter(l -> l.place == place && (keeper == NONE || l.keeper == keeper)).toList();
        }

        List<Letter> bag() {
            List<Letter> bag = new ArrayList<>(where(0, NONE));
            bag.sort(Comparator.comparingInt((Letter l) -> -l.category).thenComparingInt(l -> -l.misroutes)
                    .thenComparingInt(l -> l.number));
            return bag;
        }

        List<Letter> frame(int walk) {
            List<Letter> frame = new ArrayList<>(where(1, walk));
            frame.sort(Comparator.comparingInt((Letter l) -> l.code).thenComparingInt(l -> l.number));
            return frame;
        }

        int free(int walk) {
            int free = holes[walk] - where(1, walk).size();
            return free < 0 ? 0 : free;
        }

        int stretches() {
            int found = 0;
            for (int code = 0; code < 100; code++) {
                if (code == 99 || owner[code] != owner[code + 1]) {
                    found++;
                }
            }
            return found;
        }

        void put(Letter l, int place, int keeper) {
            l.place = place;
            l.keeper = keeper;
        }

        void sort(Letter l) {
            int walk = belongs(l);
            if (free(walk) > 0) {
                put(l, 1, walk);
                return;
            }
            put(l, 2, NONE);
            if (rule == 1 && l.category == 1) {
                Letter last = where(1, walk).stream().filter(o -> o.category == 0)
                        .max(Comparator.comparingInt(o -> o.number)).orElse(null);
                if (last != null) {
                    put(last, 2, NONE);
                    put(l, 1, walk);
                }
            }
            if (rule == 2) {
                int best = 7;
                for (int w = 7; w >= 0; w--) {
                    best = free(w) >= free(best) ? w : best;
                }
                if (free(best) > 0) {
                    put(l, 1, best);
                }
            }
        }

        void passHour() {
            hour++;
            where(2, NONE).forEach(l -> put(l, 0, NONE));
            bag().stream().limit(speed).toList().forEach(this::sort);
        }

        boolean canGo(Carrier c) {
            return c.walk != NONE && !c.out && !frame(c.walk).isEmpty();
        }

        int go(int number) {
            Carrier c = carriers.get(number);
            frame(c.walk).stream().limit(load).forEach(l -> {
                put(l, 3, number);
                c.hand.add(l.number);
            });
            c.out = true;
            return c.hand.size();
        }

        int back(int number) {
            Carrier c = carriers.get(number);
            List<Letter> right = new ArrayList<>();
            for (int n : c.hand) {
                Letter l = letters.get(n);
                if (belongs(l) == c.walk) {
                    right.add(l);
                    continue;
                }
                misroutes++;
                put(l, ++l.misroutes == 3 ? 5 : 0, NONE);
                l.ended = l.place == 5 ? hour : NONE;
            }
            int many = c.roundsOn(c.walk) >= 2 ? right.size() : right.size() - right.size() / 2;
            for (int i = 0; i < right.size(); i++) {
                Letter l = right.get(i);
                if (i < many) {
                    put(l, 4, NONE);
                    l.ended = hour;
                } else if (free(c.walk) > 0) {
                    put(l, 1, c.walk);
                } else {
                    put(l, 2, NONE);
                }
            }
            c.hand.clear();
            c.out = false;
            c.delivered += many;
            c.rounds.merge(c.walk, 1, Integer::sum);
            roundsBack++;
            return many;
        }
    }

    private static final String NUMBER = "(?:0|[1-9][0-9]?)";
    private static final String RANGE = NUMBER + "-" + NUMBER + "=[0-7]";
    private static final Pattern RANGES = Pattern.compile(RANGE + "(?:;" + RANGE + ")*");

    private State now = new State();
    private final Deque<State> history = new ArrayDeque<>();
    private String text = "";

    Model() {
        int[] last = {12, 24, 37, 49, 62, 74, 87, 99};
        for (int code = 0; code < 100; code++) {
            int c = code;
            now.owner[code] = (int) Arrays.stream(last).filter(l -> l < c).count();
        }
        for (int i = 0; i < 6; i++) {
            now.carriers.add(new Carrier());
        }
    }

    private static boolean in(int value, int least, int most) {
        return least <= value && value <= most;
    }

    private void keep() {
        history.addLast(now);
        now = now.copy();
        if (history.size() > 5) {
            history.removeFirst();
        }
    }

    int post(int code, int category, int many) {
        if (!in(code, 0, 99) || !in(category, 0, 1) || !in(many, 1, 20)) {
            return INVALID;
        }
        if (now.letters.size() + many > 120) {
            return FULL;
        }
        keep();
        int first = now.letters.size();
        for (int i = 0; i < many; i++) {
            Letter l = new Letter();
            l.number = first + i;
            l.code = code;
            l.category = category;
            l.came = now.hour;
            now.letters.add(l);
        }
        return first;
    }

    int hour() {
        if (now.hour == 500) {
            return FULL;
        }
        keep();
        now.passHour();
        return now.where(2, NONE).size();
    }

    int setRange(int from, int to, int walk) {
        if (!in(from, 0, 99) || !in(to, from, 99) || !in(walk, 0, 7)) {
            return INVALID;
        }
        keep();
        Arrays.fill(now.owner, from, to + 1, walk);
        return now.stretches();
    }

    int set(int what, int value) {
        int previous;
        if (in(what, 0, 7) && in(value, 1, 20)) {
            keep();
            previous = now.holes[what];
            now.holes[what] = value;
        } else if (what == 8 && in(value, 0, 2)) {
            keep();
            previous = now.rule;
            now.rule = value;
        } else if (what == 9 && in(value, 1, 40)) {
            keep();
            previous = now.speed;
            now.speed = value;
        } else if (what == 10 && in(value, 1, 30)) {
            keep();
            previous = now.load;
            now.load = value;
        } else {
            previous = INVALID;
        }
        return previous;
    }

    private int carrierOf(int walk) {
        for (int i = 0; i < 6; i++) {
            if (now.carriers.get(i).walk == walk) {
                return i;
            }
        }
        return NONE;
    }

    int assign(int walk, int carrier) {
        if (!in(walk, 0, 7) || !in(carrier, -1, 5)) {
            return INVALID;
        }
        if (carrier != -1) {
            int has = now.carriers.get(carrier).walk;
            if (has != NONE && has != walk) {
                return STATE;
            }
        }
        int previous = carrierOf(walk);
        if (previous != NONE && now.carriers.get(previous).out) {
            return STATE;
        }
        keep();
        now.carriers.forEach(c -> c.walk = c.walk == walk ? NONE : c.walk);
        if (carrier != -1) {
            now.carriers.get(carrier).walk = walk;
        }
        return previous;
    }

    int goOut(int carrier) {
        if (!in(carrier, 0, 5)) {
            return INVALID;
        }
        if (!now.canGo(now.carriers.get(carrier))) {
            return STATE;
        }
        keep();
        return now.go(carrier);
    }

    int comeBack(int carrier) {
        if (!in(carrier, 0, 5)) {
            return INVALID;
        }
        if (!now.carriers.get(carrier).out) {
            return STATE;
        }
        keep();
        return now.back(carrier);
    }

    int take(int slot) {
        if (!in(slot, 0, 1)) {
            return INVALID;
        }
        keep();
        now.slots[slot] = now.copy();
        return now.hour;
    }

    int restore(int slot) {
        if (!in(slot, 0, 1)) {
            return INVALID;
        }
        if (now.slots[slot] == null) {
            return STATE;
        }
        keep();
        State[] slots = now.slots;
        now = slots[slot].copy();
        now.slots = slots;
        return now.hour;
    }

    int undo() {
        if (history.isEmpty()) {
            return STATE;
        }
        now = history.removeLast();
        return history.size();
    }

    int append(int character) {
        if (!in(character, 1, 255)) {
            return INVALID;
        }
        if (text.length() == 80) {
            return FULL;
        }
        text += (char) character;
        return text.length();
    }

    int clearText() {
        int length = text.length();
        text = "";
        return length;
    }

    private int fault() {
        for (int i = 1; i <= text.length(); i++) {
            Matcher m = RANGES.matcher(text.substring(0, i));
            if (!m.matches() && !m.hitEnd()) {
                return i - 1;
            }
        }
        return text.length();
    }

    int setRanges() {
        if (!RANGES.matcher(text).matches()) {
            return -1000 - fault();
        }
        String[] ranges = text.split(";");
        for (String range : ranges) {
            String[] parts = range.split("[-=]");
            if (Integer.parseInt(parts[0]) > Integer.parseInt(parts[1])) {
                return INVALID;
            }
        }
        keep();
        for (String range : ranges) {
            String[] parts = range.split("[-=]");
            Arrays.fill(now.owner, Integer.parseInt(parts[0]), Integer.parseInt(parts[1]) + 1,
                    Integer.parseInt(parts[2]));
        }
        text = "";
        return ranges.length;
    }

    int count(int what) {
        if (in(what, 0, 5)) {
            return now.where(what, NONE).size();
        }
        return switch (what) {
            case 6 -> now.letters.size();
            case 7 -> now.hour;
            case 8 -> now.stretches();
            case 9 -> (int) now.carriers.stream().filter(c -> c.out).count();
            case 10 -> (int) now.letters.stream().filter(l -> l.place == 1 && l.keeper != now.belongs(l)).count();
            case 11 -> now.misroutes;
            case 12 -> now.roundsBack;
            case 13 -> now.rule;
            case 14 -> now.speed;
            case 15 -> now.load;
            case 16 -> (int) Arrays.stream(now.slots).filter(s -> s != null).count();
            case 17 -> history.size();
            case 18 -> text.length();
            default -> INVALID;
        };
    }

    int letter(int letter, int what) {
        if (!in(letter, 0, now.letters.size() - 1) || !in(what, 0, 8)) {
            return INVALID;
        }
        Letter l = now.letters.get(letter);
        int[] all = {l.code, l.category, l.place, l.place == 1 ? l.keeper : NONE, l.place == 3 ? l.keeper : NONE,
            l.misroutes, l.came, l.ended, now.belongs(l)};
        return all[what];
    }

    int frame(int walk, int what) {
        if (!in(walk, 0, 7) || !in(what, 0, 4)) {
            return INVALID;
        }
        List<Letter> frame = now.frame(walk);
        int[] all = {now.holes[walk], frame.size(), now.free(walk),
            (int) frame.stream().filter(l -> l.category == 1).count(), carrierOf(walk)};
        return all[what];
    }

    int carrier(int carrier, int what) {
        if (!in(carrier, 0, 5) || !in(what, 0, 3)) {
            return INVALID;
        }
        Carrier c = now.carriers.get(carrier);
        int[] all = {c.walk, c.out ? 1 : 0, c.hand.size(), c.delivered};
        return all[what];
    }

    int rounds(int carrier, int walk) {
        return in(carrier, 0, 5) && in(walk, 0, 7) ? now.carriers.get(carrier).roundsOn(walk) : INVALID;
    }

    int stretch(int code, int what) {
        if (!in(code, 0, 99) || !in(what, 0, 2)) {
            return INVALID;
        }
        int[] all = {now.owner[code], code, code};
        for (int i = code; i >= 0 && now.owner[i] == all[0]; i--) {
            all[1] = i;
        }
        for (int i = code; i < 100 && now.owner[i] == all[0]; i++) {
            all[2] = i;
        }
        return all[what];
    }

    private static int at(List<Letter> list, int place) {
        return place < list.size() ? list.get(place).number : NONE;
    }

    int inBag(int place) {
        return place < 0 ? INVALID : at(now.bag(), place);
    }

    int inFrame(int walk, int place) {
        return !in(walk, 0, 7) || place < 0 ? INVALID : at(now.frame(walk), place);
    }

    int clearIn() {
        State then = now.copy();
        for (int hours = 0; hours <= 60; hours++) {
            if (then.where(0, NONE).isEmpty() && then.where(2, NONE).isEmpty()) {
                return hours;
            }
            then.passHour();
        }
        return NONE;
    }

    int wouldOverflow(int rule) {
        if (!in(rule, 0, 2)) {
            return INVALID;
        }
        State then = now.copy();
        then.rule = rule;
        then.passHour();
        return then.where(2, NONE).size();
    }

    int bestCarrier(int walk) {
        if (!in(walk, 0, 7)) {
            return INVALID;
        }
        int best = NONE;
        for (int i = 5; i >= 0; i--) {
            Carrier c = now.carriers.get(i);
            if (c.walk == NONE && (best == NONE || c.roundsOn(walk) >= now.carriers.get(best).roundsOn(walk))) {
                best = i;
            }
        }
        return best;
    }

    int wouldDeliver(int carrier) {
        if (!in(carrier, 0, 5)) {
            return INVALID;
        }
        State then = now.copy();
        Carrier c = then.carriers.get(carrier);
        if (!c.out) {
            if (!then.canGo(c)) {
                return STATE;
            }
            then.go(carrier);
        }
        return then.back(carrier);
    }
}
