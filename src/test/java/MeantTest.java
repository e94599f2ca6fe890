/** Promises 7 to 13: what is MEANT. */
public final class MeantTest {
    private static final Due DUE = new Due("MeantTest");
    private static final int MIN = Integer.MIN_VALUE;
    private static final int MAX = Integer.MAX_VALUE;

    public static void main(String[] args) {
        sumOfEachPart();
        sumOfSteps();
        sumOfChanges();
        signs();
        ties();
        name();
        keyOf();
        turns();
        firstOfSeveral();
        asksChangeNothing();
        DUE.end();
    }

    private static void sumOfEachPart() {
        DUE.is("7: no sounds", new SpellPitch().sum(), 0);
        DUE.is("7: C, E, G", Scores.chord(60, 64, 67).sum(), 0);
        // B, C, C sharp in one chord: 20, 15, 22 (7 apart: 2) in keys of 7, one outside: 2.
        DUE.is("7: three half steps", Scores.chord(59, 60, 61).sum(), 4);
        SpellPitch x = Scores.chord(60, 60, 60);
        x.fix(0, 3);
        x.fix(1, 15);
        x.fix(2, 27);
        x.key(0, 8);
        // 3 and 27 are 12 and 6 outside 15 .. 21; 12, 12, 24 apart; 3 has two flats.
        DUE.is("7: three names of one pitch", x.sum(), 2 * 18 + 4 + 2 * (6 + 6 + 18));
        DUE.is("7: its signs", x.signs(), 3);
        SpellPitch y = Scores.chord(60, 61);
        y.weights(0, 0, 1, 0, 0);
        y.fix(0, 15);
        y.fix(1, 22);
        DUE.is("7: 7 apart is one more than 6", y.sum(), 1);
        SpellPitch z = Scores.chord(60, 66);
        z.weights(0, 0, 1, 0, 0);
        z.fix(0, 15);
        z.fix(1, 21);
        DUE.is("7: 6 apart is not more", z.sum(), 0);
    }

    private static int stepOf(int pitch, int name, int next, int nextName) {
        SpellPitch x = Scores.line(pitch, next);
        x.weights(0, 0, 0, 1, 0);
        x.fix(0, name);
        x.fix(1, nextName);
        return x.sum();
    }

    private static void sumOfSteps() {
        DUE.is("7: C, C", stepOf(60, 15, 60, 15), 0);
        DUE.is("7: C, B sharp", stepOf(60, 15, 60, 27), 1);
        DUE.is("7: C, C an octave up", stepOf(60, 15, 72, 27), 0);
        DUE.is("7: C, D flat", stepOf(60, 15, 61, 10), 0);
        DUE.is("7: C, C sharp", stepOf(60, 15, 61, 22), 1);
        DUE.is("7: C, B twice sharp", stepOf(60, 15, 61, 34), 1);
        DUE.is("7: C, D", stepOf(60, 15, 62, 17), 0);
        DUE.is("7: C, E twice flat", stepOf(60, 15, 62, 5), 1);
        DUE.is("7: C, D sharp is 3", stepOf(60, 15, 63, 24), 0);
        DUE.is("7: C, F twice flat is 3", stepOf(60, 15, 63, 0), 0);
        DUE.is("7: C, B", stepOf(60, 15, 59, 20), 0);
        DUE.is("7: C, C flat", stepOf(60, 15, 59, 8), 1);
        DUE.is("7: C, B flat", stepOf(60, 15, 58, 13), 0);
        DUE.is("7: C, A sharp", stepOf(60, 15, 58, 25), 1);
        DUE.is("7: B sharp, C sharp", stepOf(60, 27, 61, 22), 0);
        DUE.is("7: C sharp, B sharp", stepOf(61, 22, 60, 27), 0);
        DUE.is("7: D flat, C flat", stepOf(61, 10, 59, 8), 0);
        DUE.is("7: up by pitch, down by place", stepOf(60, 3, 61, 22), 1);
        DUE.is("7: at the lowest pitch", stepOf(0, 27, 1, 22), 0);

        SpellPitch x = Scores.chord(60, 64);
        x.pitch(72, false);
        x.pitch(64, true);
        x.pitch(60, true);
        x.weights(0, 0, 0, 1, 0);
        x.fix(0, 15);
        x.fix(4, 27);
        DUE.is("7: only the same place counts", x.sum(), 0);
        x.fix(1, 19);
        x.fix(3, 7);
        DUE.is("7: the second one's does", x.sum(), 1);
    }

    private static int changeOf(int key, int next) {
        SpellPitch x = Scores.line(60, 66);
        x.weights(0, 0, 0, 0, 3);
        x.key(0, key);
        x.key(1, next);
        return x.sum();
    }

    private static void sumOfChanges() {
        for (int key = 0; key < 15; key++) {
            for (int next = 0; next < 15; next++) {
                int far = Math.abs(key - next);
                DUE.is("7: key " + key + " to " + next, changeOf(key, next), far == 12 ? 3 : 3 * far);
            }
        }
        SpellPitch x = Scores.line(60, 60, 60);
        x.weights(0, 0, 0, 0, 20);
        x.key(0, 0);
        x.key(2, 13);
        // By 12 or 1 between: a turn and a step.
        DUE.is("7: 13 apart by a turn", x.sum(), 40);
        DUE.is("7: the lesser key between", x.keyOf(1), 1);
    }

    private static void signs() {
        DUE.is("8: none", new SpellPitch().signs(), 0);
        DUE.is("8: C, E, G", Scores.chord(60, 64, 67).signs(), 0);
        SpellPitch x = Scores.line(60, 62, 61);
        x.fix(0, 3);
        x.fix(1, 29);
        x.fix(2, 10);
        DUE.is("8: 2 flats, 2 sharps, 1 flat", x.signs(), 5);
        SpellPitch y = new SpellPitch();
        for (int i = 0; i < 18; i++) {
            y.pitch(62, false);
            y.fix(i, 29);
        }
        DUE.is("8: the most", y.signs(), 36);
    }

    private static void ties() {
        DUE.is("9: no sounds", new SpellPitch().ties(), 1);
        DUE.is("9: C in 7 keys, B sharp in one, D twice flat in none", Scores.line(60).ties(), 8);
        DUE.is("9: D flat in 4 keys, C sharp in 6", Scores.line(61).ties(), 10);
        SpellPitch x = Scores.line(60);
        x.weights(0, 0, 0, 0, 0);
        DUE.is("9: every choice", x.ties(), 45);
        x.pitch(68, true);
        DUE.is("9: 68 has two names", x.ties(), 90);
        x.pitch(60, false);
        DUE.is("9: two moments", x.ties(), 4050);
        x.fix(0, 15);
        DUE.is("9: one name told", x.ties(), 1350);
        x.key(2, 3);
        DUE.is("9: one key told", x.ties(), 90);
        SpellPitch many = Scores.line(60, 60, 60);
        many.weights(0, 0, 0, 0, 0);
        DUE.is("9: below the most", many.ties(), 91125);
        many.pitch(68, true);
        DUE.is("9: below it still", many.ties(), 182250);
        many.pitch(68, true);
        DUE.is("9: and still", many.ties(), 364500);
        many.pitch(68, false);
        DUE.is("9: 1000000 at most", many.ties(), 1000000);
        SpellPitch full = new SpellPitch();
        full.weights(0, 0, 0, 0, 0);
        for (int i = 0; i < 18; i++) {
            full.pitch(60 + i, i % 3 != 0);
        }
        DUE.is("9: as many as can be", full.ties(), 1000000);
        DUE.is("9: for nothing", full.sum(), 0);
    }

    private static void name() {
        SpellPitch x = Scores.line(60, 61, 0, 127, 59, 127);
        x.fix(0, 15);
        x.fix(1, 22);
        x.fix(2, 27);
        x.fix(3, 4);
        x.fix(4, 8);
        x.fix(5, 28);
        DUE.all("10: NAMES", each(x, 6, 0), 15, 22, 27, 4, 8, 28);
        DUE.all("10: LETTERS", each(x, 6, 1), 0, 0, 6, 5, 0, 3);
        DUE.all("10: SIGNS, and 2", each(x, 6, 2), 2, 3, 3, 0, 1, 4);
        DUE.all("10: OCTAVES", each(x, 6, 3), 6, 6, 0, 11, 6, 11);
        DUE.is("10: no sound 6", x.name(6, 0), -1);
        DUE.is("10: no sound -1", x.name(-1, 0), -1);
        DUE.is("10: no sound MIN", x.name(MIN, 0), -1);
        DUE.is("10: no sound MAX", x.name(MAX, 0), -1);
        DUE.is("10: -1 is ahead of -2", x.name(6, 4), -1);
        DUE.is("10: what 4", x.name(0, 4), -2);
        DUE.is("10: what -1", x.name(0, -1), -2);
        DUE.is("10: what MIN", x.name(0, MIN), -2);
        DUE.is("10: what MAX", x.name(0, MAX), -2);
        int[] letters = {3, 0, 4, 1, 5, 2, 6};
        for (int name = 0; name < 35; name++) {
            SpellPitch y = Scores.line(60 + Math.floorMod(7 * (name - 15), 12));
            y.fix(0, name);
            DUE.is("10: LETTER of " + name, y.name(0, 1), letters[name % 7]);
            DUE.is("10: SIGNS of " + name, y.name(0, 2), name / 7);
        }
        SpellPitch lowest = Scores.line(0);
        lowest.fix(0, 3);
        DUE.is("10: D twice flat at 0", lowest.name(0, 3), 1);
    }

    private static int[] each(SpellPitch x, int sounds, int what) {
        int[] found = new int[sounds];
        for (int sound = 0; sound < sounds; sound++) {
            found[sound] = x.name(sound, what);
        }
        return found;
    }

    private static void keyOf() {
        SpellPitch x = Scores.chord(60, 64, 67);
        x.pitch(66, false);
        DUE.is("11: the only key that has them all", x.keyOf(0), 8);
        DUE.is("11: of its second", x.keyOf(1), 8);
        DUE.is("11: of its third", x.keyOf(2), 8);
        DUE.is("11: of the next moment", x.keyOf(3), 8);
        x.key(3, 9);
        DUE.is("11: told", x.keyOf(3), 9);
        DUE.is("11: no sound 4", x.keyOf(4), -1);
        DUE.is("11: no sound -1", x.keyOf(-1), -1);
        DUE.is("11: no sound MIN", x.keyOf(MIN), -1);
        DUE.is("11: no sound MAX", x.keyOf(MAX), -1);
    }

    private static void turns() {
        SpellPitch x = Scores.line(60, 60, 60, 60, 60);
        DUE.is("12: none", x.turned(), 0);
        DUE.is("13: none", x.turn(0), -1);
        int[] keys = {0, 12, 12, 0, 13};
        for (int i = 0; i < 5; i++) {
            x.key(i, keys[i]);
        }
        DUE.is("12: up and down, 13 is none", x.turned(), 2);
        DUE.is("13: the first", x.turn(0), 1);
        DUE.is("13: the second", x.turn(1), 3);
        DUE.is("13: no third", x.turn(2), -1);
        DUE.is("13: -1", x.turn(-1), -1);
        DUE.is("13: MIN", x.turn(MIN), -1);
        DUE.is("13: MAX", x.turn(MAX), -1);
        x.key(4, 12);
        DUE.is("12: one more", x.turned(), 3);
        DUE.is("13: it", x.turn(2), 4);
        x.weights(0, 0, 0, 0, 0);
        DUE.is("12: a turn that costs nothing", x.turned(), 3);
        x.clear();
        DUE.is("12: none any more", x.turned(), 0);
        DUE.is("13: none any more", x.turn(0), -1);
        // MOMENTS are counted, not SOUNDS.
        SpellPitch y = Scores.chord(60, 64, 67);
        y.pitch(60, false);
        y.key(0, 14);
        y.key(3, 2);
        DUE.is("12: down by 12", y.turned(), 1);
        DUE.is("13: at moment 1", y.turn(0), 1);
    }

    private static void firstOfSeveral() {
        SpellPitch x = Scores.line(60);
        DUE.is("7: the lowest key that has C", x.keyOf(0), 2);
        DUE.is("7: fewest signs", x.name(0, 0), 15);
        SpellPitch y = Scores.line(61);
        DUE.is("7: flat is first", y.name(0, 0), 10);
        DUE.is("7: in the lowest key", y.keyOf(0), 0);
        SpellPitch b = Scores.line(59);
        DUE.is("7: fewest signs are ahead of the lesser key: name", b.name(0, 0), 20);
        DUE.is("7: fewest signs are ahead of the lesser key: key", b.keyOf(0), 7);
        SpellPitch z = Scores.line(60, 61);
        z.weights(0, 0, 0, 0, 0);
        DUE.is("7: for nothing, the first key", z.keyOf(0), 0);
        DUE.is("7: fewest signs for nothing", z.name(0, 0), 15);
        DUE.is("7: the first key again", z.keyOf(1), 0);
        DUE.is("7: the lesser of one sign each", z.name(1, 0), 10);
        SpellPitch w = Scores.chord(61, 61);
        w.weights(0, 0, 0, 0, 0);
        DUE.is("7: first", w.name(0, 0), 10);
        DUE.is("7: second", w.name(1, 0), 10);
        // An earlier MOMENT is compared ahead of a later one.
        SpellPitch v = Scores.line(60, 60);
        v.weights(0, 0, 0, 0, 1);
        v.key(1, 3);
        DUE.is("7: least cost is ahead of the lesser key", v.keyOf(0), 3);
        v.weights(0, 0, 0, 0, 0);
        DUE.is("7: the lesser key", v.keyOf(0), 0);
    }

    private static void asksChangeNothing() {
        SpellPitch x = Scores.line(61, 63, 66);
        x.pitch(70, true);
        for (int i = 0; i < 3; i++) {
            DUE.all("7 to 13: asked again",
                new int[] {x.sum(), x.signs(), x.ties(), x.turned(), x.name(0, 0), x.keyOf(0)},
                0, 4, 6, 0, 10, 0);
            x.name(9, 9);
            x.turn(9);
            x.interval(0, 3, 1);
            x.transpose(0, 38, 0);
            x.micro(0, 6, 3);
        }
    }
}
