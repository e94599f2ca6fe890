/** Promises 7 to 13 at their boundaries. */
final class MeantBounds {
    private static final int KEY = Scores.UNTOLD_KEY;
    private static final int NAME = Scores.UNTOLD_NAME;

    private final Bounds b;

    MeantBounds(Bounds b) {
        this.b = b;
    }

    void run() {
        costOfWhatIsMeant();
        costWithoutSounds();
        signsCounted();
        tiesCounted();
        tiesAtMost();
        tiesWithoutSounds();
        nameWhat();
        nameNoSound();
        nameOutside();
        keyAsMeant();
        keyOfNoSound();
        howManyTurns();
        whereATurnComes();
        noSuchTurn();
    }

    private void costOfWhatIsMeant() {
        b.sentence("Promise 7", "The COST of what is MEANT");
        SpellPitch most = new SpellPitch();
        most.weights(20, 20, 20, 20, 20);
        for (int moment = 0; moment < 6; moment++) {
            if (moment % 2 == 0) {
                Scores.moment(most, 0, 63, 0, 61, 34, 63, 0);
            } else {
                Scores.moment(most, 14, 61, 34, 63, 0, 61, 34);
            }
        }
        int out = 3 * (7 + 21 + 7) + 3 * (7 + 21 + 7);
        int wide = 6 * (28 + 28);
        b.is("all told, as dear as it gets", most.sum(), 20 * (out + 18 + wide + 5 * 14 + 5 * 3));
        b.is("there is one such CHOICE", most.ties(), 1);
        b.is("least of all", Scores.full(60, 1).sum(), 0);
    }

    private void costWithoutSounds() {
        b.sentence("Promise 7", "0 without SOUNDS");
        SpellPitch x = new SpellPitch();
        b.is("a new object", x.sum(), 0);
        x.weights(20, 20, 20, 20, 20);
        b.is("whatever the weights", x.sum(), 0);
        Scores.moment(x, 14, 60, 3);
        b.is("with one", x.sum(), 20 * 18 + 20);
        x.clear();
        b.is("after clear()", x.sum(), 0);
    }

    private void signsCounted() {
        b.sentence("Promise 8", "Its signs (as they are counted above)");
        b.is("without SOUNDS", new SpellPitch().signs(), 0);
        b.is("C", Scores.line(60).signs(), 0);
        for (int name = 0; name < 35; name++) {
            b.is("of NAME " + name, Scores.named(name).signs(), Math.abs(name / 7 - 2));
        }
        b.is("flats and sharps do not make up for each other", Scores.named(0, 34, 10, 22, 15).signs(), 6);
        SpellPitch most = new SpellPitch();
        for (int i = 0; i < 18; i++) {
            Scores.moment(most, KEY, 60, 3);
        }
        b.is("the most", most.signs(), 36);
        most.clear();
        b.is("after clear()", most.signs(), 0);
    }

    private void tiesCounted() {
        b.sentence("Promise 9", "How many CHOICES have that COST");
        b.is("C in 7 KEYS, B sharp in one, though it has signs", Scores.line(60).ties(), 8);
        b.is("B in 7 KEYS, C flat in two", Scores.line(59).ties(), 9);
        SpellPitch one = Scores.line(60);
        one.key(0, 7);
        b.is("one", one.ties(), 1);
        one.weights(0, 0, 0, 0, 0);
        b.is("all three NAMES", one.ties(), 3);
        SpellPitch turn = Scores.line(60, 60, 60);
        turn.weights(0, 0, 0, 1, 1);
        turn.key(0, 0);
        turn.key(2, 13);
        for (int sound = 0; sound < 3; sound++) {
            turn.fix(sound, 15);
        }
        b.is("by KEY 1 or by KEY 12", turn.ties(), 2);
    }

    /** So many MOMENTS without a KEY told, and so many PITCHES of two and of three NAMES; all for nothing. */
    private static int tiesOf(int keys, int twos, int threes) {
        SpellPitch x = new SpellPitch();
        x.weights(0, 0, 0, 0, 0);
        for (int i = 0; i < twos + threes; i++) {
            Scores.moment(x, i < keys ? KEY : 7, i < twos ? 68 : 60, NAME);
        }
        return x.ties();
    }

    private void tiesAtMost() {
        b.sentence("Promise 9", "1000000 at most");
        b.is("15 x 15 x 15 x 2 x 2 x 2 x 2 x 2 x 3 x 3", tiesOf(3, 5, 2), 972000);
        b.is("15 x 15 x 2 x 3 x 3 x 3 x 3 x 3 x 3 x 3", tiesOf(2, 1, 7), 984150);
        b.is("4096 x 243", tiesOf(0, 12, 5), 995328);
        b.is("15 x 15 x 512 x 9, which are 1036800", tiesOf(2, 9, 2), 1000000);
        b.is("2 x 531441, which are 1062882", tiesOf(0, 1, 12), 1000000);
        b.is("15 x 15 x 15 x 32 x 27 would be more", tiesOf(3, 5, 3), 1000000);
        b.is("all there can be", tiesOf(18, 0, 18), 1000000);
        SpellPitch chords = Scores.full(60, 3);
        chords.weights(0, 0, 0, 0, 0);
        b.is("all there can be in chords", chords.ties(), 1000000);
        for (int sound = 0; sound < 18; sound++) {
            chords.fix(sound, 15);
            chords.key(sound, 7);
        }
        b.is("one, when all is told", chords.ties(), 1);
    }

    private void tiesWithoutSounds() {
        b.sentence("Promise 9", "(without SOUNDS there is one)");
        SpellPitch x = new SpellPitch();
        b.is("a new object", x.ties(), 1);
        x.weights(0, 0, 0, 0, 0);
        b.is("whatever the weights", x.ties(), 1);
        x.pitch(60, false);
        b.is("with one", x.ties(), 45);
        x.clear();
        b.is("after clear()", x.ties(), 1);
    }

    private void nameWhat() {
        b.sentence("Promise 10", "Of a SOUND, as MEANT: what = 0 its NAME, 1 LETTER, 2 SIGNS, and 2, 3 OCTAVE.");
        int[][] known = {
            {0, 27, 6, 3, 0}, {0, 3, 1, 0, 1}, {1, 34, 6, 4, 0}, {60, 15, 0, 2, 6}, {63, 0, 3, 0, 6}, {61, 34, 6, 4, 5},
            {127, 4, 5, 0, 11}, {127, 28, 3, 4, 11}, {59, 8, 0, 1, 6}};
        for (int[] row : known) {
            SpellPitch x = new SpellPitch();
            Scores.moment(x, KEY, row[0], row[1]);
            for (int what = 0; what < 4; what++) {
                b.is(row[1] + " at " + row[0] + ", what " + what, x.name(0, what), row[what + 1]);
            }
        }
        SpellPitch meant = Scores.line(60);
        b.is("as MEANT", meant.name(0, 0), 15);
        meant.key(0, 14);
        b.is("as MEANT now", meant.name(0, 0), 27);
        b.is("its OCTAVE now", meant.name(0, 3), 5);
    }

    private void nameNoSound() {
        b.sentence("Promise 10", "-1");
        SpellPitch x = Scores.line(60, 62, 64);
        b.outside("name(?, 0)", 0, 2, -1, sound -> x.name(sound, 0));
        b.outside("name(?, 4)", 0, 2, -1, sound -> x.name(sound, 4));
        b.is("the last", x.name(2, 0), 19);
        x.clear();
        b.is("none after clear()", x.name(0, 0), -1);
        SpellPitch full = Scores.full(60, 3);
        b.outside("name(?, 0) of 18", 0, 17, -1, sound -> full.name(sound, 0));
        b.inside("name(?, 0) of 18", 0, 17, sound -> full.name(sound, 0));
    }

    private void nameOutside() {
        b.sentence("Promise 10", "-2.");
        SpellPitch x = Scores.line(60);
        b.outside("name(0, ?)", 0, 3, -2, what -> x.name(0, what));
        b.inside("name(0, ?)", 0, 3, what -> x.name(0, what));
    }

    private void keyAsMeant() {
        b.sentence("Promise 11", "The KEY of its MOMENT, as MEANT.");
        SpellPitch x = Scores.chord(60, 64, 67);
        b.is("the first KEY that has C, E and G", x.keyOf(2), 6);
        x.pitch(66, false);
        b.is("with F sharp behind it", x.keyOf(0), 8);
        b.is("of F sharp", x.keyOf(3), 8);
        x.key(3, 0);
        b.is("told, the lowest", x.keyOf(3), 0);
        x.key(3, 14);
        b.is("told, the highest", x.keyOf(3), 14);
    }

    private void keyOfNoSound() {
        b.sentence("Promise 11", "-1.");
        SpellPitch x = Scores.line(60, 62);
        b.outside("keyOf(?)", 0, 1, -1, x::keyOf);
        x.clear();
        b.is("none after clear()", x.keyOf(0), -1);
        SpellPitch full = Scores.full(60, 1);
        b.outside("keyOf(?) of 18", 0, 17, -1, full::keyOf);
        b.inside("keyOf(?) of 18", 0, 17, full::keyOf);
    }

    /** KEYS 0 and 12, by turns, in 18 MOMENTS. */
    private static SpellPitch manyTurns() {
        SpellPitch x = Scores.full(60, 1);
        for (int moment = 0; moment < 18; moment++) {
            x.key(moment, moment % 2 * 12);
        }
        return x;
    }

    private void howManyTurns() {
        b.sentence("Promise 12", "How many TURNS there are, as MEANT.");
        b.is("without SOUNDS", new SpellPitch().turned(), 0);
        SpellPitch x = Scores.line(60);
        x.key(0, 12);
        b.is("the first MOMENT is none", x.turned(), 0);
        x.pitch(60, false);
        for (int key = 0; key < 15; key++) {
            x.key(1, key);
            b.is("from KEY 12 to " + key, x.turned(), key == 0 ? 1 : 0);
        }
        x.key(0, 1);
        for (int key = 0; key < 15; key++) {
            x.key(1, key);
            b.is("from KEY 1 to " + key, x.turned(), key == 13 ? 1 : 0);
        }
        b.is("the most", manyTurns().turned(), 17);
        SpellPitch free = manyTurns();
        free.weights(2, 4, 2, 3, 0);
        b.is("when they cost nothing", free.turned(), 17);
        free.clear();
        b.is("after clear()", free.turned(), 0);
    }

    private void whereATurnComes() {
        b.sentence("Promise 13", "The MOMENT at which TURN i, from 0, comes.");
        SpellPitch x = manyTurns();
        for (int i = 0; i < 17; i++) {
            b.is("turn(" + i + ")", x.turn(i), i + 1);
        }
        SpellPitch chords = new SpellPitch();
        int[] keys = {14, 14, 2, 3, 4, 14};
        for (int key : keys) {
            Scores.moment(chords, key, 60, NAME, 64, NAME, 67, NAME);
        }
        b.is("a MOMENT, not a SOUND", chords.turn(0), 2);
        b.is("from 4 to 14 is none", chords.turn(1), -1);
        chords.key(12, 2);
        b.is("the second one", chords.turn(1), 5);
        b.is("how many", chords.turned(), 2);
    }

    private void noSuchTurn() {
        b.sentence("Promise 13", "-1.");
        SpellPitch empty = new SpellPitch();
        b.is("without SOUNDS", empty.turn(0), -1);
        b.outside("turn(?) without SOUNDS", 0, 0, -1, empty::turn);
        SpellPitch none = Scores.line(60, 62);
        b.is("without TURNS", none.turn(0), -1);
        SpellPitch x = manyTurns();
        b.outside("turn(?)", 0, 16, -1, x::turn);
        b.inside("turn(?)", 0, 16, x::turn);
        x.clear();
        b.is("after clear()", x.turn(0), -1);
    }
}
