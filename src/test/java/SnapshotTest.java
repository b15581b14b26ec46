/** Promises 9 to 11: take, restore, undo. */
public final class SnapshotTest {
    private static final int[] WRONG_SLOTS = {-1, 2, Integer.MIN_VALUE, Integer.MAX_VALUE};

    private SnapshotTest() {
    }

    public static void main(String[] args) {
        Check c = new Check("SnapshotTest");
        take(c);
        restore(c);
        restoreOfOtherLetters(c);
        restoreKeepsTextSlotsAndHistory(c);
        wrong(c);
        undo(c);
        undoKeepsSlots(c);
        undoOfEachAction(c);
        c.end();
    }

    private static void take(Check c) {
        WalkFrames x = new WalkFrames();
        x.hour();
        x.hour();
        c.due("take", x.take(1), 2);
        c.due("snapshots", x.count(16), 1);
        c.due("states", x.count(17), 3);
        c.due("slot 0 is empty", x.restore(0), -2);
        x.hour();
        c.due("take in place of one", x.take(1), 3);
        c.due("snapshots", x.count(16), 1);
        c.due("take the other", x.take(0), 3);
        c.due("snapshots", x.count(16), 2);
        x.hour();
        c.due("the later one is kept", x.restore(1), 3);
        c.due("undo of restore", x.undo(), 4);
        c.due("hour again", x.count(7), 4);
    }

    /** Everything that a snapshot keeps becomes another. */
    private static void changeAll(WalkFrames x) {
        x.post(0, 1, 3);
        x.setRange(20, 40, 5);
        x.set(0, 2);
        x.set(8, 1);
        x.set(9, 7);
        x.set(10, 3);
        x.hour();
        x.assign(0, 3);
        x.goOut(3);
        x.comeBack(3);
        x.setRange(0, 5, 1);
        x.goOut(3);
    }

    private static void restore(Check c) {
        WalkFrames x = new WalkFrames();
        WalkFrames y = new WalkFrames();
        x.post(5, 0, 2);
        y.post(5, 0, 2);
        x.take(0);
        y.take(0);
        changeAll(x);
        c.due("restore", x.restore(0), 0);
        for (int i = 0; i < 4; i++) {
            y.setRange(0, 99, i);
        }
        c.due("restore", y.restore(0), 0);
        y.set(9, 10);
        y.undo();
        x.set(9, 10);
        x.undo();
        x.take(0);
        y.take(0);
        c.same("restored", Look.all(x).replaceAll(" u.*", ""), Look.all(y).replaceAll(" u.*", ""));
        WalkFrames z = new WalkFrames();
        changeAll(z);
        z.take(1);
        WalkFrames same = new WalkFrames();
        changeAll(same);
        same.take(1);
        z.post(1, 1, 1);
        z.comeBack(3);
        z.hour();
        z.restore(1);
        same.hour();
        same.hour();
        same.hour();
        same.restore(1);
        c.same("restored with a carrier out", Look.all(z).replaceAll(" u.*", ""),
                Look.all(same).replaceAll(" u.*", ""));
    }

    /** The letter 0 of the present and the letter 0 of the snapshot have nothing in common. */
    private static void restoreOfOtherLetters(Check c) {
        WalkFrames x = new WalkFrames();
        x.take(1);
        x.post(5, 0, 1);
        x.hour();
        x.assign(0, 0);
        x.goOut(0);
        x.comeBack(0);
        x.take(0);
        x.restore(1);
        x.hour();
        x.hour();
        x.post(90, 1, 1);
        int[] present = {90, 1, 0, -9, -9, 0, 2, -9, 7};
        for (int what = 0; what <= 8; what++) {
            c.due("letter(0, " + what + ")", x.letter(0, what), present[what]);
        }
        c.due("restore", x.restore(0), 1);
        int[] kept = {5, 0, 4, -9, -9, 0, 0, 1, 0};
        for (int what = 0; what <= 8; what++) {
            c.due("letter(0, " + what + ") restored", x.letter(0, what), kept[what]);
        }
        c.due("undo", x.undo(), 4);
        for (int what = 0; what <= 8; what++) {
            c.due("letter(0, " + what + ") undone", x.letter(0, what), present[what]);
        }
    }

    private static void restoreKeepsTextSlotsAndHistory(Check c) {
        WalkFrames x = new WalkFrames();
        x.hour();
        x.take(0);
        Check.append(x, "0-9");
        x.hour();
        x.take(1);
        c.due("restore", x.restore(0), 1);
        c.due("text", x.count(18), 3);
        c.due("snapshots", x.count(16), 2);
        c.due("states", x.count(17), 5);
        c.due("the other slot", x.restore(1), 2);
        c.due("the first slot stays", x.restore(0), 1);
        c.due("again", x.restore(0), 1);
    }

    private static void wrong(Check c) {
        for (int slot : WRONG_SLOTS) {
            c.unchanged("wrong take", x -> x.post(1, 0, 2), x -> x.take(slot), -1);
            c.unchanged("wrong restore", x -> x.take(0), x -> x.restore(slot), -1);
        }
        c.unchanged("restore of an empty slot", x -> x.take(0), x -> x.restore(1), -2);
    }

    private static void undo(Check c) {
        WalkFrames x = new WalkFrames();
        for (int i = 1; i <= 7; i++) {
            x.hour();
            c.due("states", x.count(17), Math.min(i, 5));
        }
        Check.append(x, "7-");
        for (int i = 4; i >= 0; i--) {
            c.due("undo", x.undo(), i);
            c.due("hour", x.count(7), 2 + i);
        }
        c.due("text", x.count(18), 2);
        c.unchanged("undo of nothing", y -> y.count(0), y -> y.undo(), -2);
        c.due("undo of nothing", x.undo(), -2);
        x.hour();
        c.due("states", x.count(17), 1);
        c.due("hour", x.count(7), 3);
        c.due("an action that changes nothing is recorded", x.set(9, 10), 10);
        c.due("undo", x.undo(), 1);
        x.post(100, 0, 0);
        x.restore(0);
        x.goOut(0);
        x.append(65);
        x.clearText();
        x.count(5);
        x.clearIn();
        c.due("these are not recorded", x.count(17), 1);
    }

    private static void undoKeepsSlots(Check c) {
        WalkFrames x = new WalkFrames();
        x.take(0);
        x.hour();
        x.take(0);
        x.take(1);
        c.due("undo", x.undo(), 3);
        c.due("slot 1 is empty again", x.restore(1), -2);
        c.due("undo", x.undo(), 2);
        c.due("slot 0 has the older one again", x.restore(0), 0);
        c.due("undo", x.undo(), 2);
        c.due("undo", x.undo(), 1);
        c.due("undo", x.undo(), 0);
        c.due("no snapshot", x.count(16), 0);
        c.due("restore", x.restore(0), -2);
    }

    private static void undoOfEachAction(Check c) {
        WalkFrames x = new WalkFrames();
        WalkFrames y = new WalkFrames();
        changeAll(x);
        changeAll(y);
        for (int i = 0; i < 5; i++) {
            x.set(9, 7);
            y.set(9, 7);
        }
        x.post(1, 1, 1);
        x.hour();
        x.comeBack(3);
        x.take(0);
        x.restore(0);
        for (int i = 0; i < 5; i++) {
            y.set(9, 8);
        }
        for (int i = 4; i >= 0; i--) {
            c.due("undo", x.undo(), i);
            y.undo();
        }
        c.same("all undone", Look.all(x), Look.all(y));
    }
}
