/** All that can be seen of an object, in some 420 calls; the last ones read the text and undo. */
final class Look {
    private Look() {
    }

    static String all(WalkFrames x) {
        StringBuilder out = new StringBuilder();
        for (int what = 0; what <= 18; what++) {
            out.append(" c").append(x.count(what));
        }
        letters(x, out);
        for (int walk = 0; walk < 8; walk++) {
            for (int what = 0; what <= 4; what++) {
                out.append(" f").append(x.frame(walk, what));
            }
            for (int place = 0; place < 3; place++) {
                out.append(" i").append(x.inFrame(walk, place));
            }
            out.append(" b").append(x.bestCarrier(walk));
        }
        for (int carrier = 0; carrier < 6; carrier++) {
            for (int what = 0; what <= 3; what++) {
                out.append(" k").append(x.carrier(carrier, what));
            }
            for (int walk = 0; walk < 8; walk++) {
                out.append(" r").append(x.rounds(carrier, walk));
            }
            out.append(" w").append(x.wouldDeliver(carrier));
        }
        for (int code = 0; code < 100; code++) {
            out.append(" s").append(x.stretch(code, 0));
        }
        for (int place = 0; place < 10; place++) {
            out.append(" g").append(x.inBag(place));
        }
        out.append(" h").append(x.clearIn());
        for (int rule = 0; rule <= 2; rule++) {
            out.append(" o").append(x.wouldOverflow(rule));
        }
        out.append(" t").append(x.setRanges());
        out.append(" u").append(x.undo());
        return out.toString();
    }

    private static void letters(WalkFrames x, StringBuilder out) {
        for (int letter = 0; letter < 10 && letter < x.count(6); letter++) {
            for (int what = 0; what <= 8; what++) {
                out.append(" l").append(x.letter(letter, what));
            }
        }
    }
}
