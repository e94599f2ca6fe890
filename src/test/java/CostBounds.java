/** 'Terms', what a CHOICE costs and which one is MEANT. */
final class CostBounds {
    private static final String AT_THE_SAME_PLACE = "for each SOUND of it that is at the same place"
        + " (first, second, third) in its MOMENT as one in the MOMENT before";
    private static final int KEY = Scores.UNTOLD_KEY;
    private static final int NAME = Scores.UNTOLD_NAME;

    private final Bounds b;

    CostBounds(Bounds b) {
        this.b = b;
    }

    void run() {
        out();
        twice();
        wide();
        change();
        turn();
        samePlace();
        samePlaceLater();
        samePlaceWhenFull();
        onePitch();
        oneOrTwoApart();
        leastCost();
        fewestSigns();
        momentByMoment();
        firstTheKey();
        namesInOrder();
        theLesserOne();
    }

    private void out() {
        b.sentence("Terms", "OUT times by how many its NAME lies below or above those of its MOMENT's KEY"
            + " (0 if it is one of them)");
        int[][] edges = {
            {14, 7, 0}, {20, 7, 0}, {13, 7, 1}, {21, 7, 1}, {7, 0, 0}, {13, 0, 0}, {6, 0, 1}, {14, 0, 1},
            {21, 14, 0}, {27, 14, 0}, {20, 14, 1}, {28, 14, 1}, {0, 14, 21}, {34, 0, 21}, {0, 0, 7}, {34, 14, 7}};
        for (int[] edge : edges) {
            SpellPitch x = Scores.named(edge[0]);
            x.weights(20, 0, 0, 0, 0);
            x.key(0, edge[1]);
            b.is(edge[0] + " in KEY " + edge[1], x.sum(), 20 * edge[2]);
        }
        SpellPitch each = new SpellPitch();
        each.weights(1, 0, 0, 0, 0);
        Scores.moment(each, 7, 58, 13, 66, 21, 60, 27);
        b.is("for each SOUND of a MOMENT", each.sum(), 1 + 1 + 7);
        Scores.moment(each, 8, 58, 13);
        b.is("of its own MOMENT's KEY", each.sum(), 9 + 2);
    }

    private void twice() {
        b.sentence("Terms", "TWICE, if its SIGNS are 2 or -2");
        int[][] edges = {{0, 1}, {6, 1}, {7, 0}, {13, 0}, {14, 0}, {20, 0}, {21, 0}, {27, 0}, {28, 1}, {34, 1}};
        for (int[] edge : edges) {
            SpellPitch x = Scores.named(edge[0]);
            x.weights(0, 20, 0, 0, 0);
            b.is("NAME " + edge[0], x.sum(), 20 * edge[1]);
        }
        SpellPitch each = new SpellPitch();
        each.weights(0, 7, 0, 0, 0);
        Scores.moment(each, 7, 60, 3, 62, 29, 60, 27);
        b.is("for each SOUND", each.sum(), 14);
    }

    private void wide() {
        b.sentence("Terms", "for each two SOUNDS of one MOMENT: WIDE times how much more than 6 their NAMES are apart"
            + " (0 if they are not)");
        for (int name = 0; name < 35; name++) {
            for (int other : new int[] {0, 15, 34}) {
                SpellPitch x = new SpellPitch();
                x.weights(0, 0, 3, 0, 0);
                Scores.moment(x, 7, Scores.pitchOf(name), name, Scores.pitchOf(other), other);
                b.is(name + " and " + other, x.sum(), 3 * Math.max(0, Math.abs(name - other) - 6));
            }
        }
        SpellPitch three = new SpellPitch();
        three.weights(0, 0, 1, 0, 0);
        Scores.moment(three, 7, 60, 15, 61, 22, 59, 8);
        b.is("first and second, first and third, second and third", three.sum(), 1 + 1 + 8);
        SpellPitch line = Scores.named(0, 34);
        line.weights(0, 0, 20, 0, 0);
        b.is("not those of two MOMENTS", line.sum(), 0);
    }

    private static int changed(int key, int next) {
        SpellPitch x = Scores.line(60, 60);
        x.weights(0, 0, 0, 0, 7);
        x.key(0, key);
        x.key(1, next);
        return x.sum();
    }

    private void change() {
        b.sentence("Terms", "for each MOMENT but the first: CHANGE times how far its KEY is from that of the MOMENT before");
        for (int key = 0; key < 15; key++) {
            for (int next = 0; next < 15; next++) {
                int far = Math.abs(next - key);
                if (far != 12) {
                    b.is("KEY " + key + ", then " + next, changed(key, next), 7 * far);
                }
            }
        }
        SpellPitch first = Scores.line(60);
        first.weights(0, 0, 0, 0, 20);
        first.key(0, 14);
        b.is("not for the first", first.sum(), 0);
        first.pitch(60, true);
        b.is("nor for its second SOUND", first.sum(), 0);
    }

    private void turn() {
        b.sentence("Terms", "but if they are 12 apart, CHANGE once: a TURN");
        int[][] turns = {{0, 12}, {1, 13}, {2, 14}, {12, 0}, {13, 1}, {14, 2}};
        for (int[] turn : turns) {
            b.is("KEY " + turn[0] + ", then " + turn[1], changed(turn[0], turn[1]), 7);
        }
        b.is("11 apart is none", changed(0, 11), 77);
        b.is("13 apart is none", changed(0, 13), 91);
        b.is("14 apart is none", changed(14, 0), 98);
        SpellPitch x = Scores.line(60, 60, 60);
        x.weights(0, 0, 0, 0, 20);
        x.key(0, 14);
        x.key(2, 0);
        b.is("14 apart by way of a TURN", x.sum(), 60);
        b.is("it is the lesser KEY between", x.keyOf(1), 2);
        b.is("there is one", x.turned(), 1);
    }

    private void samePlace() {
        b.sentence("Terms", AT_THE_SAME_PLACE);
        SpellPitch x = new SpellPitch();
        x.weights(0, 0, 0, 5, 0);
        Scores.moment(x, 7, 60, 15, 62, 17, 64, 19);
        Scores.moment(x, 7, 60, 27);
        b.is("the first", x.sum(), 5);
        x.pitch(62, true);
        x.fix(4, 29);
        b.is("and the second", x.sum(), 10);
        x.pitch(64, true);
        x.fix(5, 31);
        b.is("and the third", x.sum(), 15);
        Scores.moment(x, 7, 72, 15);
        b.is("the second and third have none then", x.sum(), 15);
        Scores.moment(x, 7, 40, 19, 62, 17, 64, 19);
        b.is("nor have they in the MOMENT before", x.sum(), 15);
        SpellPitch other = new SpellPitch();
        other.weights(0, 0, 0, 5, 0);
        Scores.moment(other, 7, 60, 15, 72, 15);
        Scores.moment(other, 7, 84, 15, 60, 27);
        b.is("another place does not count", other.sum(), 0);
        Scores.moment(other, 7, 60, 3);
        b.is("nor does a MOMENT further back", other.sum(), 0);
    }

    private void samePlaceLater() {
        b.sentence("Terms", AT_THE_SAME_PLACE);
        SpellPitch x = new SpellPitch();
        x.weights(0, 0, 0, 5, 0);
        Scores.moment(x, 7, 40, NAME, 50, NAME);
        Scores.moment(x, 7, 61, 22, 63, 24);
        Scores.moment(x, 7, 61, NAME, 63, NAME);
        Scores.moment(x, 7, 63, NAME, 61, NAME);
        b.is("all go on as they were told", x.sum(), 0);
        int[] names = {22, 24, 22, 24, 24, 22};
        for (int i = 0; i < names.length; i++) {
            b.is("NAME of " + (i + 2), x.name(i + 2, 0), names[i]);
        }
    }

    private void samePlaceWhenFull() {
        b.sentence("Terms", AT_THE_SAME_PLACE);
        for (int last = 1; last <= 3; last++) {
            SpellPitch x = new SpellPitch();
            x.weights(0, 0, 0, 5, 0);
            for (int i = 0; i < 15 - last; i++) {
                Scores.moment(x, 7, 40, 19);
            }
            Scores.moment(x, 7, 60, 15, 60, 15, 60, 15);
            for (int i = 0; i < last; i++) {
                x.fix(x.pitch(60, i > 0), 27);
                b.is("so many of the last MOMENT pay", x.sum(), 5 * (i + 1));
            }
            b.is("there is no room any more", x.pitch(60, false), -4);
        }
    }

    private static int stepped(int pitch, int name, int next, int nextName) {
        SpellPitch x = new SpellPitch();
        x.weights(0, 0, 0, 20, 0);
        Scores.moment(x, 7, pitch, name);
        Scores.moment(x, 7, next, nextName);
        return x.sum();
    }

    private void onePitch() {
        b.sentence("Terms", "STEP, if both have one PITCH and are not of one NAME");
        int[] names = {3, 15, 27};
        for (int name : names) {
            for (int next : names) {
                b.is("60 as " + name + ", then as " + next, stepped(60, name, 60, next), name == next ? 0 : 20);
                b.is("60 as " + name + ", then 72 as " + next, stepped(60, name, 72, next), 0);
            }
        }
        b.is("at the lowest PITCH", stepped(0, 15, 0, 27), 20);
        b.is("at the highest PITCH", stepped(127, 16, 127, 4), 20);
    }

    private void oneOrTwoApart() {
        b.sentence("Terms", "or if their PITCHES are 1 or 2 apart and their PLACES are not just 1 apart, the same way");
        int[][] known = {
            {60, 15, 61, 10, 0}, {60, 15, 61, 22, 1}, {60, 15, 61, 34, 1},
            {60, 15, 62, 17, 0}, {60, 15, 62, 29, 1}, {60, 15, 62, 5, 1},
            {60, 15, 63, 24, 0}, {60, 15, 63, 0, 0}, {60, 15, 57, 18, 0}, {60, 15, 57, 30, 0}, {60, 15, 57, 6, 0},
            {60, 15, 59, 20, 0}, {60, 15, 59, 8, 1}, {60, 15, 59, 32, 1},
            {60, 15, 58, 13, 0}, {60, 15, 58, 25, 1}, {60, 15, 58, 1, 1},
            {60, 3, 61, 22, 1}, {61, 22, 60, 3, 1}, {60, 27, 61, 10, 1}, {61, 10, 60, 27, 1},
            {59, 20, 60, 15, 0}, {60, 27, 61, 22, 0}, {61, 22, 60, 27, 0}, {59, 8, 61, 10, 0}, {61, 10, 59, 8, 0},
            {0, 15, 1, 10, 0}, {0, 27, 1, 22, 0}, {1, 34, 0, 15, 1}, {127, 16, 126, 21, 0}, {126, 9, 127, 16, 1}};
        for (int[] row : known) {
            String call = row[0] + " as " + row[1] + ", then " + row[2] + " as " + row[3];
            b.is(call, stepped(row[0], row[1], row[2], row[3]), 20 * row[4]);
        }
        for (int name = 0; name < 35; name++) {
            for (int next = 0; next < 35; next++) {
                for (int up : new int[] {-3, -2, -1, 1, 2, 3}) {
                    stepByPlaces(Scores.pitchOf(name), name, Scores.pitchOf(name) + up, next);
                }
            }
        }
    }

    private void stepByPlaces(int pitch, int name, int next, int nextName) {
        if (!Plain.sounds(nextName, next)) {
            return;
        }
        int up = next - pitch;
        int places = Plain.place(nextName, next) - Plain.place(name, pitch);
        boolean pays = Math.abs(up) <= 2 && places != (up > 0 ? 1 : -1);
        b.is(pitch + " as " + name + ", then " + next + " as " + nextName, stepped(pitch, name, next, nextName),
            pays ? 20 : 0);
    }

    private void leastCost() {
        b.sentence("Terms", "MEANT is the CHOICE of least COST");
        SpellPitch x = Scores.line(60);
        x.key(0, 14);
        b.is("B sharp costs less than C in KEY 14", x.name(0, 0), 27);
        b.is("though it has signs", x.signs(), 1);
        x.weights(0, 0, 0, 0, 0);
        b.is("and C no more, if OUT is 0", x.name(0, 0), 15);
        SpellPitch turn = Scores.line(60, 60);
        turn.weights(0, 0, 0, 0, 1);
        turn.key(1, 13);
        b.is("a near KEY costs less than a lesser one", turn.keyOf(0), 13);
    }

    private void fewestSigns() {
        b.sentence("Terms", "of several that with the fewest signs (the sum of all SIGNS, each as if it were above 0)");
        SpellPitch x = Scores.line(59);
        b.is("B in KEY 7, not C flat in KEY 1", x.name(0, 0), 20);
        b.is("its KEY", x.keyOf(0), 7);
        b.is("its COST", x.sum(), 0);
        SpellPitch flats = Scores.line(62);
        flats.weights(0, 0, 0, 0, 0);
        b.is("two flats are not fewer than none", flats.name(0, 0), 17);
        SpellPitch both = Scores.chord(61, 63);
        both.weights(0, 0, 0, 0, 0);
        both.fix(0, 10);
        b.is("a flat and a sharp are two", both.signs(), 2);
        b.is("no more and no fewer than two flats", both.name(1, 0), 12);
        SpellPitch sharp = Scores.line(60);
        sharp.weights(0, 0, 0, 0, 0);
        sharp.key(0, 14);
        b.is("none, whatever the KEY", sharp.name(0, 0), 15);
    }

    private void ask(SpellPitch x, int sum, int signs, int[] keys, int... names) {
        b.is("its COST", x.sum(), sum);
        b.is("its signs", x.signs(), signs);
        for (int sound = 0; sound < names.length; sound++) {
            b.is("KEY of " + sound, x.keyOf(sound), keys[sound]);
            b.is("NAME of " + sound, x.name(sound, 0), names[sound]);
        }
    }

    private void momentByMoment() {
        b.sentence("Terms", "of these the first one, compared MOMENT by MOMENT");
        // As dear, with as many signs: KEYS 10 and 10, which are less if the last MOMENT is compared first.
        SpellPitch x = Scores.line(62, 64);
        x.weights(1, 3, 1, 0, 2);
        x.fix(1, 31);
        ask(x, 11, 2, new int[] {2, 14}, 17, 31);
        // As dear, with as many signs: KEYS 14 and 1 with 33, 34, 14, which are less if all KEYS are compared first.
        SpellPitch y = new SpellPitch();
        y.weights(3, 0, 3, 3, 0);
        Scores.moment(y, KEY, 66, NAME, 73, 34);
        Scores.moment(y, KEY, 65, NAME);
        ask(y, 42, 4, new int[] {14, 14, 13}, 21, 34, 26);
        // As dear, with as many signs: KEY 3 with 17, 12, and 3 with 10, which are less if all NAMES come first.
        SpellPitch z = new SpellPitch();
        z.weights(1, 3, 3, 2, 1);
        Scores.moment(z, KEY, 62, NAME, 63, NAME);
        Scores.moment(z, KEY, 61, NAME);
        ask(z, 3, 2, new int[] {2, 2, 14}, 17, 12, 22);
    }

    private void firstTheKey() {
        b.sentence("Terms", "of each first the KEY");
        // As dear, with as many signs: KEY 12 with 12, then KEY 0 with 10, which are less by their NAMES.
        SpellPitch x = new SpellPitch();
        x.weights(2, 0, 0, 20, 3);
        Scores.moment(x, 11, 61, 10);
        Scores.moment(x, KEY, 63, NAME);
        Scores.moment(x, KEY, 61, NAME);
        ask(x, 36, 3, new int[] {11, 11, 11}, 10, 24, 22);
    }

    private void namesInOrder() {
        b.sentence("Terms", "then the NAMES of its SOUNDS in order");
        // As dear, with as many signs: 28 and 16 in KEY 14, then 28 and 18 in KEY 12, which are less from the last.
        SpellPitch x = new SpellPitch();
        x.weights(1, 0, 0, 4, 1);
        Scores.moment(x, 14, 67, NAME, 67, NAME);
        Scores.moment(x, KEY, 67, NAME, 69, NAME);
        Scores.moment(x, 0, 70, NAME, 68, NAME);
        ask(x, 17, 6, new int[] {14, 14, 2, 2, 0, 0}, 16, 28, 16, 6, 13, 11);
    }

    private void theLesserOne() {
        b.sentence("Terms", "the lesser one first.");
        SpellPitch x = Scores.chord(61, 63, 66);
        x.weights(0, 0, 0, 0, 0);
        ask(x, 0, 3, new int[] {0, 0, 0}, 10, 12, 9);
        SpellPitch line = Scores.line(60);
        ask(line, 0, 0, new int[] {2}, 15);
        SpellPitch flat = Scores.line(61);
        ask(flat, 0, 1, new int[] {0}, 10);
    }
}
