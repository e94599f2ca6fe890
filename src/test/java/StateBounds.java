/** Promises 1 to 6 at their boundaries. */
final class StateBounds {
    private final Bounds b;

    StateBounds(Bounds b) {
        this.b = b;
    }

    void run() {
        noSounds();
        weightsAtFirst();
        soundMore();
        pitchOutside();
        withNoneBefore();
        withThree();
        pitchNoRoom();
        keyTold();
        keyNotToldAnyMore();
        keyWas();
        keyNoSound();
        keyOutside();
        nameTold();
        nameNotToldAnyMore();
        nameWas();
        fixNoSound();
        fixOutside();
        fixDoesNotSound();
        weightsTold();
        weightsOutside();
        noSoundsAnyMore();
        weightsStay();
        howManyThereWere();
    }

    // ---- promise 1

    private void noSounds() {
        b.sentence("Promise 1", "No SOUNDS");
        SpellPitch x = new SpellPitch();
        b.is("keyOf(0)", x.keyOf(0), -1);
        b.is("name(0, 0)", x.name(0, 0), -1);
        b.is("sum()", x.sum(), 0);
        b.is("turned()", x.turned(), 0);
        b.is("clear()", x.clear(), 0);
        b.is("the first SOUND is 0", x.pitch(60, false), 0);
        b.is("another object has none", new SpellPitch().keyOf(0), -1);
    }

    private void weightsAtFirst() {
        b.sentence("Promise 1", "OUT 2, TWICE 4, WIDE 2, STEP 3, CHANGE 5");
        b.is("B sharp, 7 out of KEY 7", costOf(new SpellPitch(), 7, 60, 27), 2 * 7);
        b.is("C twice sharp, 2 out of KEY 14", costOf(new SpellPitch(), 14, 62, 29), 2 * 2 + 4);
        b.is("C and C sharp in KEY 8", costOf(new SpellPitch(), 8, 60, 15, 61, 22), 2 * 1 + 2);
        SpellPitch step = new SpellPitch();
        Scores.moment(step, 11, 60, 15);
        b.is("C and B sharp in KEY 11", costOf(step, 11, 60, 27), 2 * 6 + 3);
        SpellPitch change = new SpellPitch();
        Scores.moment(change, 7, 60, 15);
        b.is("from KEY 7 to 8", costOf(change, 8, 60, 15), 5);
    }

    private static int costOf(SpellPitch x, int key, int... pitchesAndNames) {
        Scores.moment(x, key, pitchesAndNames);
        return x.sum();
    }

    // ---- promise 2

    private void soundMore() {
        b.sentence("Promise 2", "A SOUND more, at a new MOMENT, or (with) at that of the one before: its number.");
        SpellPitch x = new SpellPitch();
        b.is("the first", x.pitch(60, false), 0);
        b.is("its KEY is told", x.key(0, 3), 15);
        b.is("with it", x.pitch(64, true), 1);
        b.is("of one MOMENT, whose KEY stays told", x.key(1, 12), 3);
        b.is("a new MOMENT", x.pitch(67, false), 2);
        b.is("its KEY is not told", x.key(2, 0), 15);
        b.is("the one before has its own", x.key(0, 12), 12);
        b.is("there are two MOMENTS", x.turn(0), 1);
        x.weights(0, 0, 0, 0, 0);
        b.is("three NAMES for each", x.ties(), 27);
        b.is("a SOUND more", x.pitch(60, true), 3);
        b.is("three NAMES for it too", x.ties(), 81);
        b.is("a MOMENT more", x.pitch(60, false), 4);
        b.is("three NAMES and 15 KEYS for it too", x.ties(), 81 * 45);
    }

    private void pitchOutside() {
        b.sentence("Promise 2", "-2 the PITCH");
        SpellPitch x = new SpellPitch();
        b.outside("pitch(?, false)", 0, 127, -2, number -> x.pitch(number, false));
        b.outside("pitch(?, true)", 0, 127, -2, number -> x.pitch(number, true));
        b.is("none was put", x.clear(), 0);
        b.inside("pitch(?, false)", 0, 127, number -> new SpellPitch().pitch(number, false));
        SpellPitch full = Scores.full(60, 1);
        b.outside("pitch(?, false) without room", 0, 127, -2, number -> full.pitch(number, false));
    }

    private void withNoneBefore() {
        b.sentence("Promise 2", "-3 with none before");
        SpellPitch x = new SpellPitch();
        b.is("pitch(60, true)", x.pitch(60, true), -3);
        b.is("and again", x.pitch(60, true), -3);
        b.is("pitch(60, false)", x.pitch(60, false), 0);
        b.is("pitch(60, true) behind it", x.pitch(60, true), 1);
        x.clear();
        b.is("after clear()", x.pitch(60, true), -3);
    }

    private void withThree() {
        b.sentence("Promise 2", "or with three at that MOMENT");
        SpellPitch x = Scores.line(60);
        b.is("a second", x.pitch(60, true), 1);
        b.is("a third", x.pitch(60, true), 2);
        b.is("no fourth", x.pitch(60, true), -3);
        b.is("a new MOMENT", x.pitch(60, false), 3);
        b.is("its second", x.pitch(60, true), 4);
        b.is("its third", x.pitch(60, true), 5);
        b.is("no fourth of it", x.pitch(60, true), -3);
        x.clear();
        b.is("after clear()", x.pitch(60, false), 0);
        b.is("with it", x.pitch(60, true), 1);
    }

    private void pitchNoRoom() {
        b.sentence("Promise 2", "-4.");
        for (int together = 1; together <= 3; together++) {
            SpellPitch x = Scores.full(60, together);
            b.is("no nineteenth", x.pitch(60, false), -4);
            b.is("nor with the last", x.pitch(60, true), together == 3 ? -3 : -4);
            b.is("the eighteenth is there", x.name(17, 0), 15);
            b.is("all are gone", x.clear(), 18);
            b.is("there is room again", x.pitch(60, false), 0);
        }
        SpellPitch almost = Scores.full(60, 2);
        almost.clear();
        for (int i = 0; i < 17; i++) {
            almost.pitch(60, false);
        }
        b.is("the last that has room, with", almost.pitch(60, true), 17);
        b.is("no more, with", almost.pitch(60, true), -4);
    }

    // ---- promise 3

    private void keyTold() {
        b.sentence("Promise 3", "The KEY of the MOMENT of a SOUND is told");
        SpellPitch x = Scores.chord(60, 64, 67);
        x.pitch(60, false);
        for (int key = 0; key < 15; key++) {
            x.sum();
            x.key(key % 3, key);
            b.is("KEY " + key + ", of the first", x.keyOf(0), key);
            b.is("KEY " + key + ", of the third", x.keyOf(2), key);
        }
        b.is("the next MOMENT's was not", x.key(3, 15), 15);
        SpellPitch last = Scores.full(60, 1);
        b.is("the last of 18 MOMENTS", last.key(17, 14), 15);
        b.is("its KEY", last.keyOf(17), 14);
    }

    private void keyNotToldAnyMore() {
        b.sentence("Promise 3", "15: it is not told any more");
        SpellPitch x = Scores.line(60);
        x.key(0, 14);
        b.is("told", x.keyOf(0), 14);
        b.is("not any more", x.key(0, 15), 14);
        b.is("the first KEY that has C", x.keyOf(0), 2);
        b.is("for nothing", x.sum(), 0);
        b.is("in as many KEYS as before", x.ties(), 8);
    }

    private void keyWas() {
        b.sentence("Promise 3", "what it was (15: it was not told)");
        SpellPitch x = Scores.chord(60, 64);
        b.is("it was not told", x.key(0, 15), 15);
        b.is("nor now", x.key(0, 0), 15);
        b.is("it was 0", x.key(1, 14), 0);
        b.is("it was 14", x.key(0, 14), 14);
        b.is("it was 14 still", x.key(1, 15), 14);
        b.is("it was not told any more", x.key(0, 7), 15);
    }

    private void keyNoSound() {
        b.sentence("Promise 3", "-1");
        SpellPitch x = Scores.line(60, 62);
        b.outside("key(?, 3)", 0, 1, -1, sound -> x.key(sound, 3));
        b.outside("key(?, 16)", 0, 1, -1, sound -> x.key(sound, 16));
        b.is("none was told", x.key(0, 15), 15);
        b.is("nor the other", x.key(1, 15), 15);
        x.clear();
        b.is("none after clear()", x.key(0, 3), -1);
    }

    private void keyOutside() {
        b.sentence("Promise 3", "-2 it is not 0 .. 15");
        SpellPitch x = Scores.line(60);
        x.key(0, 4);
        b.outside("key(0, ?)", 0, 15, -2, key -> x.key(0, key));
        b.is("what was told is kept", x.key(0, 4), 4);
        b.inside("key(0, ?)", 0, 15, key -> x.key(0, key));
    }

    // ---- promise 4

    private void nameTold() {
        b.sentence("Promise 4", "The NAME of a SOUND is told");
        for (int name = 0; name < 35; name++) {
            SpellPitch x = Scores.line(Scores.pitchOf(name), 60);
            x.sum();
            b.is("fix(0, " + name + ")", x.fix(0, name), 35);
            b.is("it is kept", x.name(0, 0), name);
            b.is("the other one's was not told", x.fix(1, 35), 35);
        }
        SpellPitch last = Scores.full(60, 3);
        b.is("the last of 18", last.fix(17, 3), 35);
        b.is("its NAME", last.name(17, 0), 3);
        b.is("the one before has its own", last.name(16, 0) == 3 ? 1 : 0, 0);
    }

    private void nameNotToldAnyMore() {
        b.sentence("Promise 4", "35: it is not told any more");
        SpellPitch x = Scores.line(60, 68);
        x.fix(0, 3);
        b.is("told", x.name(0, 0), 3);
        b.is("not any more", x.fix(0, 35), 3);
        b.is("C again", x.name(0, 0), 15);
        x.fix(1, 23);
        b.is("35 is no NAME of 68 either", x.fix(1, 35), 23);
        b.is("A flat again", x.name(1, 0), 11);
    }

    private void nameWas() {
        b.sentence("Promise 4", "what it was (35: it was not told)");
        SpellPitch x = Scores.line(60, 63);
        b.is("it was not told", x.fix(0, 35), 35);
        b.is("nor now", x.fix(0, 3), 35);
        b.is("it was 3", x.fix(0, 27), 3);
        b.is("it was 27", x.fix(0, 27), 27);
        b.is("it was 27 still", x.fix(0, 35), 27);
        b.is("the other was not told", x.fix(1, 0), 35);
        b.is("it was 0", x.fix(1, 35), 0);
        b.is("it was not told any more", x.fix(1, 35), 35);
    }

    private void fixNoSound() {
        b.sentence("Promise 4", "-1");
        SpellPitch x = Scores.line(60, 60);
        b.outside("fix(?, 15)", 0, 1, -1, sound -> x.fix(sound, 15));
        b.outside("fix(?, 36)", 0, 1, -1, sound -> x.fix(sound, 36));
        b.is("none was told", x.fix(0, 35), 35);
        x.clear();
        b.is("none after clear()", x.fix(0, 35), -1);
    }

    private void fixOutside() {
        b.sentence("Promise 4", "-2 it is not 0 .. 35");
        SpellPitch x = Scores.line(60);
        x.fix(0, 27);
        b.outside("fix(0, ?)", 0, 35, -2, name -> x.fix(0, name));
        // These would SOUND as 60, if there were such NAMES.
        for (int name : new int[] {-9, -21, 39, 51, 15 + 12 * 100, 15 - 12 * 100}) {
            b.is("fix(0, " + name + ")", x.fix(0, name), -2);
        }
        b.is("what was told is kept", x.fix(0, 27), 27);
    }

    private void fixDoesNotSound() {
        b.sentence("Promise 4", "or a NAME that does not SOUND as its PITCH");
        SpellPitch x = Scores.line(60);
        x.fix(0, 3);
        for (int name = 0; name < 35; name++) {
            if (name % 12 != 3) {
                b.is("fix(0, " + name + ")", x.fix(0, name), -2);
            }
        }
        b.is("what was told is kept", x.fix(0, 15), 3);
        SpellPitch a = Scores.line(68);
        b.is("11 SOUNDS as 68", a.fix(0, 11), 35);
        b.is("34 does not", a.fix(0, 34), -2);
        b.is("0 does not", a.fix(0, 0), -2);
    }

    // ---- promise 5

    private void weightsTold() {
        b.sentence("Promise 5", "OUT, TWICE, WIDE, STEP, CHANGE: 1.");
        SpellPitch x = new SpellPitch();
        Scores.moment(x, 8, 60, 15);
        Scores.moment(x, 9, 60, 3, 62, 17);
        int[] times = {13, 1, 8, 1, 1};
        for (int which = 0; which < 5; which++) {
            int[] w = new int[5];
            for (int weight : new int[] {0, 1, 20}) {
                w[which] = weight;
                b.is("weights(..)", x.weights(w[0], w[1], w[2], w[3], w[4]), 1);
                b.is("COST by weight " + which + " alone, " + weight, x.sum(), times[which] * weight);
            }
        }
        b.is("all the most", x.weights(20, 20, 20, 20, 20), 1);
        b.is("their COST", x.sum(), 20 * 24);
        b.is("all the least", x.weights(0, 0, 0, 0, 0), 1);
        b.is("no COST", x.sum(), 0);
        b.is("without SOUNDS", new SpellPitch().weights(1, 2, 3, 4, 5), 1);
    }

    private void weightsOutside() {
        b.sentence("Promise 5", "-2 one is not 0 .. 20");
        SpellPitch x = new SpellPitch();
        Scores.moment(x, 8, 60, 15);
        Scores.moment(x, 9, 60, 3, 62, 17);
        x.weights(1, 2, 3, 4, 5);
        b.outside("weights(?, 9, 9, 9, 9)", 0, 20, -2, w -> x.weights(w, 9, 9, 9, 9));
        b.outside("weights(9, ?, 9, 9, 9)", 0, 20, -2, w -> x.weights(9, w, 9, 9, 9));
        b.outside("weights(9, 9, ?, 9, 9)", 0, 20, -2, w -> x.weights(9, 9, w, 9, 9));
        b.outside("weights(9, 9, 9, ?, 9)", 0, 20, -2, w -> x.weights(9, 9, 9, w, 9));
        b.outside("weights(9, 9, 9, 9, ?)", 0, 20, -2, w -> x.weights(9, 9, 9, 9, w));
        b.is("weights(-1, 21, -1, 21, -1)", x.weights(-1, 21, -1, 21, -1), -2);
        b.is("all are as they were", x.sum(), 13 + 2 + 3 * 8 + 4 + 5);
        b.inside("weights(?, 0, 20, 0, 20)", 0, 20, w -> x.weights(w, 0, 20, 0, 20));
        b.inside("weights(20, ?, 0, 20, 0)", 0, 20, w -> x.weights(20, w, 0, 20, 0));
        b.inside("weights(0, 20, ?, 0, 20)", 0, 20, w -> x.weights(0, 20, w, 0, 20));
        b.inside("weights(20, 0, 20, ?, 0)", 0, 20, w -> x.weights(20, 0, 20, w, 0));
        b.inside("weights(0, 20, 0, 20, ?)", 0, 20, w -> x.weights(0, 20, 0, 20, w));
    }

    // ---- promise 6

    private void noSoundsAnyMore() {
        b.sentence("Promise 6", "No SOUNDS any more");
        SpellPitch x = Scores.full(60, 3);
        for (int sound = 0; sound < 18; sound++) {
            x.key(sound, 14);
            x.fix(sound, 3);
        }
        b.is("sum() of them", x.sum() > 0 ? 1 : 0, 1);
        b.is("clear()", x.clear(), 18);
        b.is("no SOUND 0", x.name(0, 0), -1);
        b.is("no SOUND 17", x.keyOf(17), -1);
        b.is("sum()", x.sum(), 0);
        b.is("signs()", x.signs(), 0);
        b.is("ties()", x.ties(), 1);
        for (int sound = 0; sound < 18; sound++) {
            b.is("numbered from 0", x.pitch(60, false), sound);
            b.is("its KEY was not told", x.key(sound, 15), 15);
            b.is("its NAME was not told", x.fix(sound, 35), 35);
        }
        b.is("nothing of them is left", x.sum(), 0);
    }

    private void weightsStay() {
        b.sentence("Promise 6", "(OUT, TWICE and so on stay)");
        SpellPitch x = new SpellPitch();
        x.weights(1, 2, 3, 4, 5);
        x.pitch(60, false);
        x.clear();
        Scores.moment(x, 8, 60, 15);
        Scores.moment(x, 9, 60, 3, 62, 17);
        b.is("sum()", x.sum(), 13 + 2 + 3 * 8 + 4 + 5);
        SpellPitch first = new SpellPitch();
        first.clear();
        b.is("those of a new object", costOf(first, 14, 62, 29), 2 * 2 + 4);
    }

    private void howManyThereWere() {
        b.sentence("Promise 6", "how many there were");
        SpellPitch x = new SpellPitch();
        b.is("none", x.clear(), 0);
        for (int many = 1; many <= 18; many++) {
            for (int i = 0; i < many; i++) {
                x.pitch(60, i % 3 != 0);
            }
            x.pitch(128, false);
            b.is("as many as were put", x.clear(), many);
        }
        for (int i = 0; i < 20; i++) {
            x.pitch(60, false);
        }
        b.is("18 at most", x.clear(), 18);
        b.is("none any more", x.clear(), 0);
    }
}
