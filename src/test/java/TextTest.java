/** Promises 12 to 14: append, clearText, setRanges. */
public final class TextTest {
    private TextTest() {
    }

    public static void main(String[] args) {
        Check c = new Check("TextTest");
        append(c);
        clearText(c);
        setRanges(c);
        faults(c);
        reversed(c);
        longTexts(c);
        c.end();
    }

    private static void fill(WalkFrames x, int length) {
        for (int i = 0; i < length; i++) {
            x.append(48);
        }
    }

    private static void append(Check c) {
        WalkFrames x = new WalkFrames();
        c.due("append 1", x.append(1), 1);
        c.due("append 255", x.append(255), 2);
        c.due("length", x.count(18), 2);
        c.due("no action", x.count(17), 0);
        for (int sign : new int[] {0, -1, 256, 65536 + 48, Integer.MIN_VALUE, Integer.MAX_VALUE}) {
            c.unchanged("wrong append", y -> Check.append(y, "1-"), y -> y.append(sign), -1);
            c.unchanged("wrong append to 80", y -> fill(y, 80), y -> y.append(sign), -1);
        }
        c.unchanged("append to 80", y -> fill(y, 80), y -> y.append(49), -3);
        WalkFrames y = new WalkFrames();
        fill(y, 79);
        c.due("append to 79", y.append(49), 80);
    }

    private static void clearText(Check c) {
        WalkFrames x = new WalkFrames();
        c.due("clearText of nothing", x.clearText(), 0);
        Check.append(x, "5-7=3");
        c.due("clearText", x.clearText(), 5);
        c.due("length", x.count(18), 0);
        c.due("no action", x.count(17), 0);
        c.due("an empty text", x.setRanges(), -1000);
        fill(x, 80);
        c.due("clearText of 80", x.clearText(), 80);
        c.due("append", x.append(48), 1);
    }

    private static void setRanges(Check c) {
        WalkFrames x = new WalkFrames();
        x.post(5, 0, 1);
        x.hour();
        Check.append(x, "0-9=7;5-5=2;90-99=0");
        c.due("setRanges", x.setRanges(), 3);
        c.due("text", x.count(18), 0);
        c.due("one action", x.count(17), 3);
        c.due("stretches", x.count(8), 12);
        c.due("walk of 4", x.stretch(4, 0), 7);
        c.due("walk of 5, by the later range", x.stretch(5, 0), 2);
        c.due("walk of 6", x.stretch(6, 0), 7);
        c.due("walk of 10", x.stretch(10, 0), 0);
        c.due("walk of 90", x.stretch(90, 0), 0);
        c.due("letters stay", x.letter(0, 3), 0);
        c.due("letter belongs", x.letter(0, 8), 2);
        Check.append(x, "1-");
        c.due("undo", x.undo(), 2);
        c.due("all ranges undone", x.count(8), 8);
        c.due("text stays", x.count(18), 2);
        Check.append(x, "98=4");
        c.due("the text goes on", x.setRanges(), 1);
        c.due("stretches", x.count(8), 3);
        Check.append(x, "0-0=0");
        c.due("what is so already", x.setRanges(), 1);
        c.due("recorded", x.count(17), 4);
    }

    private static void fault(Check c, String text, int fault) {
        c.unchanged("setRanges of " + text, x -> {
            x.hour();
            Check.append(x, text);
        }, x -> x.setRanges(), -1000 - fault);
        WalkFrames x = new WalkFrames();
        Check.append(x, text);
        x.setRanges();
        c.due("text stays " + text, x.count(18), text.length());
        c.due("no action " + text, x.count(17), 0);
    }

    private static void faults(Check c) {
        fault(c, "", 0);
        fault(c, "-", 0);
        fault(c, "x", 0);
        fault(c, " 1-2=3", 0);
        fault(c, "/-2=3", 0);
        fault(c, ":-2=3", 0);
        fault(c, ";1-2=3", 0);
        fault(c, "1", 1);
        fault(c, "12", 2);
        fault(c, "123-200=1", 2);
        fault(c, "00-1=1", 1);
        fault(c, "01-1=1", 1);
        fault(c, "0", 1);
        fault(c, "1=", 1);
        fault(c, "1-", 2);
        fault(c, "1--", 2);
        fault(c, "1-=3", 2);
        fault(c, "1-2", 3);
        fault(c, "1-23", 4);
        fault(c, "1-234=1", 4);
        fault(c, "1-09=1", 3);
        fault(c, "1-2-", 3);
        fault(c, "1-2=", 4);
        fault(c, "1-2=8", 4);
        fault(c, "1-2=9", 4);
        fault(c, "1-2=/", 4);
        fault(c, "1-2=33", 5);
        fault(c, "1-2=3 ", 5);
        fault(c, "1-2=3;", 6);
        fault(c, "1-2=3;;", 6);
        fault(c, "1-2=3;4-5", 9);
        fault(c, "1-2=3;4-5=8", 10);
        fault(c, "9-2=3;4-5=8", 10);
        fault(c, "1-2=3" + (char) 187, 5);
        fault(c, "1-2=3" + (char) 1, 5);
        fault(c, (char) 177 + "-2=3", 0);
    }

    private static void reversed(Check c) {
        for (String text : new String[] {"9-2=3", "1-2=3;5-4=0", "10-9=0", "99-0=7;1-2=3", "1-1=1;2-2=2;3-2=1"}) {
            c.unchanged("setRanges of " + text, x -> {
                x.hour();
                Check.append(x, text);
            }, x -> x.setRanges(), -1);
            WalkFrames x = new WalkFrames();
            Check.append(x, text);
            c.due("reversed", x.setRanges(), -1);
            c.due("text stays", x.count(18), text.length());
            c.due("stretches stay", x.count(8), 8);
            x.clearText();
            Check.append(x, "2-9=0");
            c.due("a right one behind it", x.setRanges(), 1);
        }
    }

    private static void longTexts(Check c) {
        StringBuilder text = new StringBuilder("0-0=0");
        for (int i = 1; i < 13; i++) {
            text.append(';').append(i % 10).append("-").append(i % 10).append("=").append(i % 8);
        }
        WalkFrames x = new WalkFrames();
        Check.append(x, text.toString());
        c.due("13 ranges", x.setRanges(), 13);
        c.due("walk of 2, by the last range", x.stretch(2, 0), 4);
        c.due("walk of 9", x.stretch(9, 0), 1);
        fault(c, text + ";", 78);
        fault(c, text + ";0", 79);
        fault(c, text + ";0-", 80);
        fault(c, text + ";12", 80);
        fault(c, text + ";=0", 78);
        fault(c, text + ";0=", 79);
        StringBuilder full = new StringBuilder("10-19=0");
        for (int i = 1; i < 10; i++) {
            full.append(";").append(i).append("0-").append(i).append("9=").append(i % 8);
        }
        WalkFrames y = new WalkFrames();
        Check.append(y, full.toString());
        c.due("79 signs", y.count(18), 79);
        c.due("10 ranges", y.setRanges(), 10);
        c.due("walk of 99", y.stretch(99, 0), 1);
        fault(c, full + ";", 80);
        fault(c, full + "1", 79);
    }
}
