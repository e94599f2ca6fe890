/** Promises 14 to 17: intervals. */
public final class IntervalTest {
    private static final Due DUE = new Due("IntervalTest");
    private static final int MIN = Integer.MIN_VALUE;
    private static final int MAX = Integer.MAX_VALUE;

    public static void main(String[] args) {
        interval();
        intervalTooFar();
        quality();
        add();
        transpose();
        transposeOutside();
        togetherExact();
        DUE.end();
    }

    private static void interval() {
        SpellPitch x = new SpellPitch();
        int[] pitches = {60, 64, 67, 72, 59, 0, 127};
        for (int pitch : pitches) {
            x.pitch(pitch, false);
        }
        int[] names = {15, 19, 16, 15, 20, 15, 16};
        for (int i = 0; i < names.length; i++) {
            x.fix(i, names[i]);
        }
        DUE.is("14: C to E", x.interval(0, 1, 0), 23);
        DUE.is("14: no octave", x.interval(0, 1, 1), 12);
        DUE.is("14: E down to C", x.interval(1, 0, 0), 15);
        DUE.is("14: a sixth up, an octave down", x.interval(1, 0, 1), 11);
        DUE.is("14: C to itself", x.interval(0, 0, 0), 19);
        DUE.is("14: no octave to itself", x.interval(0, 0, 1), 12);
        DUE.is("14: C to C above", x.interval(0, 3, 0), 19);
        DUE.is("14: an octave up", x.interval(0, 3, 1), 13);
        DUE.is("14: an octave down", x.interval(3, 0, 1), 11);
        DUE.is("14: C down to B", x.interval(0, 4, 0), 24);
        DUE.is("14: a seventh up, an octave down", x.interval(0, 4, 1), 11);
        DUE.is("14: from the lowest to the highest", x.interval(5, 6, 1), 22);
        DUE.is("14: from the highest to the lowest", x.interval(6, 5, 1), 1);
        DUE.is("14: no sound 7", x.interval(0, 7, 0), -1);
        DUE.is("14: no sound 7 to begin", x.interval(7, 0, 0), -1);
        DUE.is("14: no sound -1", x.interval(-1, 0, 0), -1);
        DUE.is("14: no sound MIN", x.interval(0, MIN, 0), -1);
        DUE.is("14: no sound MAX", x.interval(MAX, 0, 0), -1);
        DUE.is("14: -1 is ahead of -2", x.interval(0, 7, 2), -1);
        DUE.is("14: what 2", x.interval(0, 1, 2), -2);
        DUE.is("14: what -1", x.interval(0, 1, -1), -2);
        DUE.is("14: what MIN", x.interval(0, 1, MIN), -2);
    }

    private static void intervalTooFar() {
        SpellPitch x = new SpellPitch();
        int[] names = {0, 19, 20, 34};
        for (int i = 0; i < names.length; i++) {
            x.pitch(60 + Math.floorMod(7 * (names[i] - 15), 12), false);
            x.fix(i, names[i]);
        }
        DUE.is("14: 19 up", x.interval(0, 1, 0), 38);
        DUE.is("14: 19 down", x.interval(1, 0, 0), 0);
        DUE.is("14: 20 up", x.interval(0, 2, 0), -3);
        DUE.is("14: 20 down", x.interval(2, 0, 0), -3);
        DUE.is("14: 20 up, octaves", x.interval(0, 2, 1), -3);
        DUE.is("14: 34 up", x.interval(0, 3, 0), -3);
        DUE.is("14: -2 is ahead of -3", x.interval(0, 3, 2), -2);
        // F twice flat (63, place 45) up to E (64, place 44): 6 STEPS up, and 7 down.
        DUE.is("14: up by pitch, down by place", x.interval(0, 1, 1), 11);
    }

    private static void quality() {
        SpellPitch x = new SpellPitch();
        int[][] known = {
            {19, 0, 0, 0}, {20, 4, 7, 0}, {18, 3, 5, 0},
            {21, 1, 2, 1}, {22, 5, 9, 1}, {23, 2, 4, 1}, {24, 6, 11, 1},
            {17, 6, 10, 2}, {16, 2, 3, 2}, {15, 5, 8, 2}, {14, 1, 1, 2},
            {25, 3, 6, 3}, {26, 0, 1, 3}, {27, 4, 8, 3}, {31, 6, 12, 3},
            {13, 4, 6, 4}, {12, 0, -1, 4}, {11, 3, 4, 4}, {7, 1, 0, 4},
            {32, 3, 7, 5}, {33, 0, 2, 5}, {38, 6, 13, 5},
            {6, 4, 5, 6}, {5, 0, -2, 6}, {0, 1, -1, 6}};
        for (int[] row : known) {
            DUE.is("15: STEPS of " + row[0], x.quality(row[0], 0), row[1]);
            DUE.is("15: HALVES of " + row[0], x.quality(row[0], 1), row[2] + 2);
            DUE.is("15: SORT of " + row[0], x.quality(row[0], 2), row[3]);
        }
        for (int v = 0; v <= 38; v++) {
            DUE.is("15: SORT of " + v, x.quality(v, 2), Plain.sort(v - 19));
        }
        DUE.is("15: 39", x.quality(39, 0), -2);
        DUE.is("15: -1", x.quality(-1, 0), -2);
        DUE.is("15: MIN", x.quality(MIN, 1), -2);
        DUE.is("15: MAX", x.quality(MAX, 2), -2);
        DUE.is("15: what 3", x.quality(19, 3), -2);
        DUE.is("15: what -1", x.quality(19, -1), -2);
    }

    private static void add() {
        for (int v = -1; v <= 39; v++) {
            SpellPitch x = new SpellPitch();
            for (int w = -1; w <= 39; w++) {
                boolean none = v < 0 || v > 38 || w < 0 || w > 38;
                int both = v + w - 19;
                DUE.is("16: " + v + " and " + w, x.add(v, w), none ? -2 : both < 0 || both > 38 ? -3 : both);
            }
        }
        SpellPitch x = new SpellPitch();
        DUE.is("16: MIN", x.add(MIN, 0), -2);
        DUE.is("16: MAX", x.add(MAX, MAX), -2);
        DUE.is("16: MIN, the other", x.add(19, MIN), -2);
        DUE.is("16: two fifths", x.add(20, 20), 21);
        DUE.is("16: a great and a small third", x.add(23, 16), 20);
    }

    private static void transpose() {
        SpellPitch x = new SpellPitch();
        x.pitch(60, false);
        DUE.is("17: by none", x.transpose(0, 19, 0), 15);
        DUE.is("17: by none, pitch", x.transpose(0, 19, 1), 60);
        DUE.is("17: a fifth", x.transpose(0, 20, 0), 16);
        DUE.is("17: a fifth, pitch", x.transpose(0, 20, 1), 67);
        DUE.is("17: a great third", x.transpose(0, 23, 0), 19);
        DUE.is("17: a great third, pitch", x.transpose(0, 23, 1), 64);
        DUE.is("17: less than none", x.transpose(0, 12, 0), 8);
        DUE.is("17: less than none, pitch", x.transpose(0, 12, 1), 59);
        DUE.is("17: no name beyond 34", x.transpose(0, 38, 0), 34);
        x.fix(0, 27);
        DUE.is("17: as it is meant now", x.transpose(0, 20, 0), 28);
        DUE.is("17: no sound 1", x.transpose(1, 19, 0), -1);
        DUE.is("17: no sound -1", x.transpose(-1, 19, 0), -1);
        DUE.is("17: no sound MIN", x.transpose(MIN, 19, 0), -1);
        DUE.is("17: -1 is ahead of -2", x.transpose(1, 39, 2), -1);
        DUE.is("17: 39", x.transpose(0, 39, 0), -2);
        DUE.is("17: -1", x.transpose(0, -1, 0), -2);
        DUE.is("17: MAX", x.transpose(0, MAX, 0), -2);
        DUE.is("17: what 2", x.transpose(0, 19, 2), -2);
        DUE.is("17: what -1", x.transpose(0, 19, -1), -2);
        DUE.is("17: -2 is ahead of -3", x.transpose(0, 38, 2), -2);
        DUE.is("17: it is not moved itself", x.name(0, 0), 27);
    }

    private static void transposeOutside() {
        SpellPitch x = new SpellPitch();
        x.pitch(60, false);
        x.pitch(0, false);
        x.pitch(127, false);
        x.fix(0, 27);
        x.fix(1, 15);
        x.fix(2, 16);
        DUE.is("17: name 34", x.transpose(0, 26, 0), 34);
        DUE.is("17: name 35", x.transpose(0, 27, 0), -3);
        DUE.is("17: name 35, pitch", x.transpose(0, 27, 1), -3);
        x.fix(0, 3);
        DUE.is("17: name 0", x.transpose(0, 16, 0), 0);
        DUE.is("17: name -1", x.transpose(0, 15, 0), -3);
        DUE.is("17: name -1, pitch", x.transpose(0, 15, 1), -3);
        DUE.is("17: pitch -1", x.transpose(1, 12, 1), -3);
        DUE.is("17: pitch -1, name", x.transpose(1, 12, 0), -3);
        DUE.is("17: pitch 0", x.transpose(1, 7, 1), 0);
        DUE.is("17: pitch 128", x.transpose(2, 26, 1), -3);
        DUE.is("17: pitch 128, name", x.transpose(2, 26, 0), -3);
        DUE.is("17: pitch 127", x.transpose(2, 7, 1), 127);
        DUE.is("17: pitch 127, name", x.transpose(2, 7, 0), 4);
    }

    /** What is transposed SOUNDS as its PITCH, and lies just that INTERVAL away. */
    private static void togetherExact() {
        SpellPitch x = new SpellPitch();
        for (int v = 0; v <= 38; v++) {
            x.clear();
            x.pitch(60, false);
            x.fix(0, 15);
            int name = x.transpose(0, v, 0);
            if (name >= 0) {
                int pitch = x.transpose(0, v, 1);
                x.pitch(pitch, false);
                DUE.is("17: " + name + " sounds as " + pitch, x.fix(1, name), 35);
                DUE.is("14: back by the interval", x.interval(0, 1, 0), v);
                DUE.is("14: without an octave", x.interval(0, 1, 1), 12);
            }
        }
    }
}
