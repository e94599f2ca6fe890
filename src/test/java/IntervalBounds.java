/** Promises 14 to 17 at their boundaries. */
final class IntervalBounds {
    private static final int KEY = Scores.UNTOLD_KEY;

    private final Bounds b;

    IntervalBounds(Bounds b) {
        this.b = b;
    }

    void run() {
        asFarAlong();
        octavesPut();
        intervalNoSound();
        intervalOutside();
        tooFarAlong();
        qualityWhat();
        qualityOutside();
        bothTogether();
        addOutside();
        addNone();
        movedUp();
        transposeNoSound();
        transposeOutside();
        noSuchName();
        noSuchPitch();
    }

    // ---- promise 14

    private void asFarAlong() {
        b.sentence("Promise 14", "From a SOUND up or down to another one, as MEANT: what = 0 the INTERVAL that goes as far"
            + " along the line");
        SpellPitch x = Scores.named(15, 0, 19, 34);
        b.is("to itself", x.interval(0, 0, 0), 19);
        b.is("15 to 0", x.interval(0, 1, 0), 4);
        b.is("0 to 15", x.interval(1, 0, 0), 34);
        b.is("0 to 19", x.interval(1, 2, 0), 38);
        b.is("19 to 0", x.interval(2, 1, 0), 0);
        b.is("15 to 34", x.interval(0, 3, 0), 38);
        b.is("34 to 15", x.interval(3, 0, 0), 0);
        SpellPitch meant = Scores.line(60, 67);
        b.is("C to G", meant.interval(0, 1, 0), 20);
        meant.fix(0, 27);
        meant.fix(1, 16);
        b.is("B sharp to G", meant.interval(0, 1, 0), 8);
    }

    private static int octaves(int pitch, int name, int next, int nextName) {
        SpellPitch x = new SpellPitch();
        Scores.moment(x, KEY, pitch, name);
        Scores.moment(x, KEY, next, nextName);
        return x.interval(0, 1, 1);
    }

    private void octavesPut() {
        b.sentence("Promise 14", "1 how often an octave is put to its STEPS (below 0: taken away) so that they go from one"
            + " PLACE to the other, and 12.");
        b.is("C to itself", octaves(60, 15, 60, 15), 12);
        b.is("C to G above", octaves(60, 15, 67, 16), 12);
        b.is("C to G below", octaves(60, 15, 55, 16), 11);
        b.is("C to C above", octaves(60, 15, 72, 15), 13);
        b.is("C to C below", octaves(60, 15, 48, 15), 11);
        b.is("C to B below", octaves(60, 15, 59, 20), 11);
        b.is("B to C above", octaves(59, 20, 60, 15), 12);
        b.is("C to B sharp, of one PITCH", octaves(60, 15, 60, 27), 11);
        b.is("B sharp to C, of one PITCH", octaves(60, 27, 60, 15), 12);
        b.is("C to D twice flat, of one PITCH", octaves(60, 15, 60, 3), 12);
        b.is("C to C sharp", octaves(60, 15, 61, 22), 12);
        b.is("C to C flat", octaves(60, 15, 59, 8), 12);
        b.is("the lowest to the highest", octaves(0, 15, 127, 16), 22);
        b.is("the highest to the lowest", octaves(127, 16, 0, 15), 1);
        b.is("from below 0 to the highest", octaves(0, 27, 127, 16), 22);
        b.is("the highest to below 0", octaves(127, 16, 0, 27), 1);
        b.is("C at 0 to C at 120", octaves(0, 15, 120, 15), 22);
        b.is("C at 120 to C at 0", octaves(120, 15, 0, 15), 2);
    }

    private void intervalNoSound() {
        b.sentence("Promise 14", "-1 (either)");
        SpellPitch x = Scores.line(60, 64);
        b.outside("interval(?, 0, 0)", 0, 1, -1, sound -> x.interval(sound, 0, 0));
        b.outside("interval(0, ?, 1)", 0, 1, -1, sound -> x.interval(0, sound, 1));
        b.outside("interval(?, ?, 0)", 0, 1, -1, sound -> x.interval(sound, sound, 0));
        b.outside("interval(?, 0, 2)", 0, 1, -1, sound -> x.interval(sound, 0, 2));
        b.outside("interval(0, ?, 2)", 0, 1, -1, sound -> x.interval(0, sound, 2));
        x.clear();
        b.is("none after clear()", x.interval(0, 1, 0), -1);
    }

    private void intervalOutside() {
        b.sentence("Promise 14", "-2");
        SpellPitch x = Scores.named(15, 19, 0, 34);
        b.outside("interval(0, 1, ?)", 0, 1, -2, what -> x.interval(0, 1, what));
        b.outside("interval(2, 3, ?), too far", 0, 1, -2, what -> x.interval(2, 3, what));
        b.inside("interval(0, 1, ?)", 0, 1, what -> x.interval(0, 1, what));
    }

    private void tooFarAlong() {
        b.sentence("Promise 14", "-3 it is more than 19 along the line");
        for (int name = 0; name < 35; name++) {
            for (int next = 0; next < 35; next++) {
                SpellPitch x = Scores.named(name, next);
                boolean tooFar = Math.abs(next - name) > 19;
                b.is(name + " to " + next, x.interval(0, 1, 0), tooFar ? -3 : next - name + 19);
                b.is(name + " to " + next + ", octaves", x.interval(0, 1, 1) == -3 ? 1 : 0, tooFar ? 1 : 0);
            }
        }
    }

    // ---- promise 15

    private void qualityWhat() {
        b.sentence("Promise 15", "Of an INTERVAL: what = 0 STEPS, 1 HALVES, and 2, 2 SORT.");
        int[][] known = {
            {0, 1, 1, 6}, {5, 0, 0, 6}, {6, 4, 7, 6}, {7, 1, 2, 4}, {13, 4, 8, 4}, {14, 1, 3, 2}, {17, 6, 12, 2},
            {18, 3, 7, 0}, {19, 0, 2, 0}, {20, 4, 9, 0}, {21, 1, 4, 1}, {24, 6, 13, 1}, {25, 3, 8, 3}, {31, 6, 14, 3},
            {32, 3, 9, 5}, {38, 6, 15, 5}};
        SpellPitch x = new SpellPitch();
        for (int[] row : known) {
            for (int what = 0; what < 3; what++) {
                b.is("quality(" + row[0] + ", " + what + ")", x.quality(row[0], what), row[what + 1]);
            }
        }
    }

    private void qualityOutside() {
        b.sentence("Promise 15", "-2.");
        SpellPitch x = new SpellPitch();
        for (int what = 0; what < 3; what++) {
            int asked = what;
            b.outside("quality(?, " + what + ")", 0, 38, -2, interval -> x.quality(interval, asked));
            b.inside("quality(?, " + what + ")", 0, 38, interval -> x.quality(interval, asked));
        }
        b.outside("quality(19, ?)", 0, 2, -2, what -> x.quality(19, what));
        b.outside("quality(39, ?)", 0, 2, -2, what -> x.quality(39, what));
    }

    // ---- promise 16

    private void bothTogether() {
        b.sentence("Promise 16", "The INTERVAL that goes as far along the line as both together.");
        SpellPitch x = new SpellPitch();
        b.is("nothing and nothing", x.add(19, 19), 19);
        b.is("the lowest and nothing", x.add(0, 19), 0);
        b.is("the highest and nothing", x.add(19, 38), 38);
        b.is("the lowest and the highest", x.add(0, 38), 19);
        b.is("a fourth and a fifth", x.add(18, 20), 19);
        b.is("just the highest", x.add(28, 29), 38);
        b.is("just the lowest", x.add(9, 10), 0);
    }

    private void addOutside() {
        b.sentence("Promise 16", "-2 (either)");
        SpellPitch x = new SpellPitch();
        for (int other : new int[] {0, 19, 38}) {
            b.outside("add(?, " + other + ")", 0, 38, -2, interval -> x.add(interval, other));
            b.outside("add(" + other + ", ?)", 0, 38, -2, interval -> x.add(other, interval));
        }
        b.outside("add(?, ?)", 0, 38, -2, interval -> x.add(interval, interval));
        b.is("39 and one less", x.add(39, 18), -2);
        b.is("-1 and one more", x.add(-1, 20), -2);
        b.inside("add(?, 19)", 0, 38, interval -> x.add(interval, 19));
    }

    private void addNone() {
        b.sentence("Promise 16", "-3 there is none");
        SpellPitch x = new SpellPitch();
        b.is("one above the highest", x.add(29, 29), -3);
        b.is("one below the lowest", x.add(9, 9), -3);
        b.is("the highest and a fifth", x.add(38, 20), -3);
        b.is("the lowest and a fourth", x.add(18, 0), -3);
        b.is("the highest twice", x.add(38, 38), -3);
        b.is("the lowest twice", x.add(0, 0), -3);
    }

    // ---- promise 17

    private void movedUp() {
        b.sentence("Promise 17", "A SOUND, as MEANT, moved up by an INTERVAL: what = 0 its NAME, 1 its PITCH"
            + " (its HALVES more).");
        SpellPitch x = Scores.named(15);
        for (int v = 4; v <= 38; v++) {
            b.is("NAME up by " + v, x.transpose(0, v, 0), 15 + v - 19);
            b.is("PITCH up by " + v, x.transpose(0, v, 1), 60 + x.quality(v, 1) - 2);
        }
        b.is("it stays itself", x.name(0, 0), 15);
        SpellPitch meant = Scores.line(60);
        meant.key(0, 14);
        b.is("as MEANT", meant.transpose(0, 19, 0), 27);
    }

    private void transposeNoSound() {
        b.sentence("Promise 17", "-1");
        SpellPitch x = Scores.line(60, 62);
        b.outside("transpose(?, 19, 0)", 0, 1, -1, sound -> x.transpose(sound, 19, 0));
        b.outside("transpose(?, 39, 1)", 0, 1, -1, sound -> x.transpose(sound, 39, 1));
        b.outside("transpose(?, 19, 2)", 0, 1, -1, sound -> x.transpose(sound, 19, 2));
        x.clear();
        b.is("none after clear()", x.transpose(0, 19, 0), -1);
    }

    private void transposeOutside() {
        b.sentence("Promise 17", "-2 (either)");
        SpellPitch x = Scores.named(15, 34);
        b.outside("transpose(0, ?, 0)", 0, 38, -2, interval -> x.transpose(0, interval, 0));
        b.outside("transpose(0, ?, 1)", 0, 38, -2, interval -> x.transpose(0, interval, 1));
        b.outside("transpose(0, 19, ?)", 0, 1, -2, what -> x.transpose(0, 19, what));
        b.outside("transpose(1, 38, ?), no such NAME", 0, 1, -2, what -> x.transpose(1, 38, what));
        b.outside("transpose(0, 39, ?)", 0, 1, -2, what -> x.transpose(0, 39, what));
    }

    private void noSuchName() {
        b.sentence("Promise 17", "-3 there is no such NAME");
        for (int name = 0; name < 35; name++) {
            SpellPitch x = Scores.named(name);
            for (int v = 0; v <= 38; v++) {
                int moved = name + v - 19;
                boolean none = moved < 0 || moved > 34;
                b.is(name + " up by " + v, x.transpose(0, v, 0), none ? -3 : moved);
                b.is(name + " up by " + v + ", PITCH", x.transpose(0, v, 1) == -3 ? 1 : 0, none ? 1 : 0);
            }
        }
    }

    private void noSuchPitch() {
        b.sentence("Promise 17", "or no such PITCH (whatever is asked)");
        SpellPitch low = new SpellPitch();
        Scores.moment(low, KEY, 0, 15);
        Scores.moment(low, KEY, 1, 22);
        b.is("0 down to -1", low.transpose(0, 12, 1), -3);
        b.is("0 down to -1, NAME", low.transpose(0, 12, 0), -3);
        b.is("0 down to -2", low.transpose(0, 5, 1), -3);
        b.is("0 down to -2, NAME", low.transpose(0, 5, 0), -3);
        b.is("0 stays 0", low.transpose(0, 7, 1), 0);
        b.is("0 stays 0, NAME", low.transpose(0, 7, 0), 3);
        b.is("1 down to 0", low.transpose(1, 12, 1), 0);
        b.is("1 down to 0, NAME", low.transpose(1, 12, 0), 15);
        SpellPitch high = new SpellPitch();
        Scores.moment(high, KEY, 127, 16);
        Scores.moment(high, KEY, 120, 15);
        b.is("127 up to 128", high.transpose(0, 26, 1), -3);
        b.is("127 up to 128, NAME", high.transpose(0, 26, 0), -3);
        b.is("127 stays 127", high.transpose(0, 7, 1), 127);
        b.is("127 stays 127, NAME", high.transpose(0, 7, 0), 4);
        b.is("120 up to 127", high.transpose(1, 20, 1), 127);
        b.is("120 up to 127, NAME", high.transpose(1, 20, 0), 16);
        b.is("120 up to 128", high.transpose(1, 27, 1), -3);
        b.is("120 up to 128, NAME", high.transpose(1, 27, 0), -3);
    }
}
