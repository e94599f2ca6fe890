/** Promises 1 to 6: a new object, and the calls that tell it something. */
public final class StateTest {
    private static final Due DUE = new Due("StateTest");
    private static final int MIN = Integer.MIN_VALUE;
    private static final int MAX = Integer.MAX_VALUE;

    public static void main(String[] args) {
        newObject();
        weightsOfANewObject();
        pitch();
        pitchWithoutRoom();
        key();
        fix();
        weights();
        clear();
        DUE.end();
    }

    private static void newObject() {
        SpellPitch x = new SpellPitch();
        DUE.is("1: sum()", x.sum(), 0);
        DUE.is("1: signs()", x.signs(), 0);
        DUE.is("1: ties()", x.ties(), 1);
        DUE.is("1: turned()", x.turned(), 0);
        DUE.is("1: turn(0)", x.turn(0), -1);
        DUE.is("1: name(0, 0)", x.name(0, 0), -1);
        DUE.is("1: keyOf(0)", x.keyOf(0), -1);
        DUE.is("1: key(0, 15)", x.key(0, 15), -1);
        DUE.is("1: fix(0, 35)", x.fix(0, 35), -1);
        DUE.is("1: interval(0, 0, 0)", x.interval(0, 0, 0), -1);
        DUE.is("1: transpose(0, 19, 0)", x.transpose(0, 19, 0), -1);
        DUE.is("1: micro(0, 0, 2)", x.micro(0, 0, 2), -1);
        DUE.is("1: clear()", x.clear(), 0);
        SpellPitch other = Scores.line(60);
        DUE.is("1: objects share nothing", x.name(0, 0), -1);
        DUE.is("1: the other has its own", other.name(0, 0), 15);
    }

    private static void weightsOfANewObject() {
        SpellPitch out = Scores.line(60);
        out.fix(0, 27);
        out.key(0, 7);
        DUE.is("1: OUT 2, 7 above the key", out.sum(), 14);
        SpellPitch below = Scores.line(60);
        below.fix(0, 3);
        below.key(0, 7);
        DUE.is("1: OUT 2, 11 below the key, and TWICE 4", below.sum(), 26);
        SpellPitch twice = Scores.line(62);
        twice.fix(0, 29);
        twice.key(0, 14);
        DUE.is("1: OUT 2, twice, and TWICE 4", twice.sum(), 8);
        SpellPitch wide = Scores.line(60);
        wide.pitch(61, true);
        wide.fix(0, 15);
        wide.fix(1, 22);
        wide.key(0, 8);
        DUE.is("1: OUT 2, and WIDE 2", wide.sum(), 4);
        SpellPitch step = Scores.line(60, 60);
        step.fix(0, 15);
        step.fix(1, 27);
        step.key(0, 11);
        step.key(1, 11);
        DUE.is("1: OUT 2, six times, and STEP 3", step.sum(), 15);
        SpellPitch change = Scores.line(60, 60);
        change.key(0, 7);
        change.key(1, 8);
        DUE.is("1: CHANGE 5", change.sum(), 5);
    }

    private static void pitch() {
        SpellPitch x = new SpellPitch();
        DUE.is("2: -2 is ahead of -3", x.pitch(128, true), -2);
        DUE.is("2: with none before", x.pitch(60, true), -3);
        DUE.is("2: pitch(-1)", x.pitch(-1, false), -2);
        DUE.is("2: pitch(128)", x.pitch(128, false), -2);
        DUE.is("2: pitch(MIN)", x.pitch(MIN, false), -2);
        DUE.is("2: pitch(MAX)", x.pitch(MAX, false), -2);
        DUE.is("2: a refusal puts none", x.clear(), 0);
        DUE.is("2: the lowest", x.pitch(0, false), 0);
        DUE.is("2: the highest", x.pitch(127, true), 1);
        DUE.is("2: two at one moment share its key", x.key(0, 4), 15);
        DUE.is("2: the second tells it", x.key(1, 15), 4);
        DUE.is("2: a third", x.pitch(60, true), 2);
        DUE.is("2: -2 with three there", x.pitch(-1, true), -2);
        int before = x.ties();
        DUE.is("2: a fourth", x.pitch(60, true), -3);
        DUE.is("2: it changes nothing", x.ties(), before);
        DUE.is("2: a new moment", x.pitch(60, false), 3);
        DUE.is("2: its key is not told", x.key(3, 5), 15);
        DUE.is("2: the first moment's is still not", x.key(2, 15), 15);
        DUE.is("2: one more there", x.pitch(64, true), 4);
        DUE.is("2: it has its key", x.key(4, 15), 5);
        DUE.is("2: name of 127", x.name(1, 0), 16);
        DUE.is("2: number 5 is not there", x.name(5, 0), -1);
    }

    private static void pitchWithoutRoom() {
        SpellPitch x = new SpellPitch();
        for (int i = 0; i < 18; i++) {
            DUE.is("2: up to 18", x.pitch(60, i % 3 != 0), i);
        }
        DUE.is("2: no room", x.pitch(60, false), -4);
        DUE.is("2: -3 is ahead of -4", x.pitch(60, true), -3);
        DUE.is("2: -2 is ahead of -4", x.pitch(200, false), -2);
        DUE.is("2: no eighteenth", x.name(18, 0), -1);
        DUE.is("2: the last", x.name(17, 0), 15);
        DUE.is("2: all that were put", x.clear(), 18);
        for (int i = 0; i < 18; i++) {
            DUE.is("2: up to 18 moments", x.pitch(60, false), i);
        }
        DUE.is("2: no room with", x.pitch(60, true), -4);
        DUE.is("2: no room at a new moment", x.pitch(60, false), -4);
        DUE.is("2: 18 moments", x.key(17, 9), 15);
        DUE.is("2: its key", x.keyOf(17), 9);
    }

    private static void key() {
        SpellPitch x = Scores.line(60, 62);
        x.pitch(65, true);
        DUE.is("3: told", x.key(0, 0), 15);
        DUE.is("3: kept", x.keyOf(0), 0);
        DUE.is("3: the next one is near it", x.keyOf(1), x.keyOf(2));
        DUE.is("3: told anew", x.key(0, 14), 0);
        DUE.is("3: kept anew", x.keyOf(0), 14);
        DUE.is("3: of the other moment", x.key(1, 7), 15);
        DUE.is("3: by its other sound", x.key(2, 8), 7);
        DUE.is("3: no sound 3", x.key(3, 8), -1);
        DUE.is("3: no sound -1", x.key(-1, 8), -1);
        DUE.is("3: no sound MIN", x.key(MIN, 8), -1);
        DUE.is("3: no sound MAX", x.key(MAX, 8), -1);
        DUE.is("3: -1 is ahead of -2", x.key(3, 16), -1);
        DUE.is("3: 16", x.key(2, 16), -2);
        DUE.is("3: -1", x.key(2, -1), -2);
        DUE.is("3: MIN", x.key(2, MIN), -2);
        DUE.is("3: MAX", x.key(2, MAX), -2);
        DUE.is("3: a refusal changes nothing", x.keyOf(2), 8);
        DUE.is("3: not told any more", x.key(2, 15), 8);
        DUE.is("3: it was not told", x.key(1, 15), 15);
        DUE.is("3: the first one's", x.key(0, 15), 14);
        DUE.is("3: without what was told", x.sum(), 0);
        DUE.is("3: the lowest key that has C, D and F", x.keyOf(0), 4);
        for (int key = 0; key < 15; key++) {
            x.key(0, key);
            DUE.is("3: every key is kept", x.keyOf(0), key);
        }
    }

    private static void fix() {
        SpellPitch x = Scores.line(60, 68);
        DUE.is("4: as it is meant", x.name(0, 0), 15);
        DUE.is("4: told", x.fix(0, 3), 35);
        DUE.is("4: kept", x.name(0, 0), 3);
        DUE.is("4: told anew", x.fix(0, 27), 3);
        DUE.is("4: kept anew", x.name(0, 0), 27);
        DUE.is("4: a name of another pitch", x.fix(0, 16), -2);
        DUE.is("4: 36", x.fix(0, 36), -2);
        DUE.is("4: 39, which would sound so", x.fix(0, 39), -2);
        DUE.is("4: -1", x.fix(0, -1), -2);
        DUE.is("4: -9, which would sound so", x.fix(0, -9), -2);
        DUE.is("4: MIN", x.fix(0, MIN), -2);
        DUE.is("4: MAX", x.fix(0, MAX), -2);
        DUE.is("4: a refusal changes nothing", x.name(0, 0), 27);
        DUE.is("4: no sound 2", x.fix(2, 15), -1);
        DUE.is("4: no sound -1", x.fix(-1, 15), -1);
        DUE.is("4: -1 is ahead of -2", x.fix(2, 36), -1);
        DUE.is("4: not told any more", x.fix(0, 35), 27);
        DUE.is("4: it was not told", x.fix(0, 35), 35);
        DUE.is("4: as it is meant again", x.name(0, 0), 15);
        DUE.is("4: 11 sounds as 68", x.fix(1, 11), 35);
        DUE.is("4: 23 sounds as 68", x.fix(1, 23), 11);
        DUE.is("4: 35 is no name of 68", x.fix(1, 35), 23);
        DUE.is("4: it is not told", x.fix(1, 35), 35);
        SpellPitch edges = Scores.line(127, 0, 58);
        DUE.is("4: the first name", edges.fix(2, 34), -2);
        for (int pitch = 0; pitch < 12; pitch++) {
            int names = 0;
            SpellPitch y = Scores.line(pitch);
            for (int name = 0; name < 35; name++) {
                names += y.fix(0, name) >= 0 ? 1 : 0;
            }
            DUE.is("4: how many names pitch " + pitch + " has", names, pitch == 8 ? 2 : 3);
        }
    }

    private static void weights() {
        SpellPitch x = Scores.line(60);
        x.fix(0, 27);
        x.key(0, 7);
        DUE.is("5: weights", x.weights(3, 0, 0, 0, 0), 1);
        DUE.is("5: OUT", x.sum(), 21);
        int[] wrong = {-1, 21, MIN, MAX};
        for (int w : wrong) {
            DUE.is("5: out " + w, x.weights(w, 1, 1, 1, 1), -2);
            DUE.is("5: twice " + w, x.weights(1, w, 1, 1, 1), -2);
            DUE.is("5: wide " + w, x.weights(1, 1, w, 1, 1), -2);
            DUE.is("5: step " + w, x.weights(1, 1, 1, w, 1), -2);
            DUE.is("5: change " + w, x.weights(1, 1, 1, 1, w), -2);
        }
        DUE.is("5: a refusal changes nothing", x.sum(), 21);
        DUE.is("5: the most", x.weights(20, 20, 20, 20, 20), 1);
        DUE.is("5: OUT 20", x.sum(), 140);
        DUE.is("5: the least", x.weights(0, 0, 0, 0, 0), 1);
        DUE.is("5: OUT 0", x.sum(), 0);

        SpellPitch y = Scores.line(60, 60);
        y.pitch(62, true);
        y.fix(0, 15);
        y.fix(1, 3);
        y.fix(2, 17);
        y.key(0, 8);
        y.key(1, 9);
        y.weights(1, 0, 0, 0, 0);
        DUE.is("5: 13 below key 9", y.sum(), 13);
        y.weights(0, 7, 0, 0, 0);
        DUE.is("5: one with two signs", y.sum(), 7);
        y.weights(0, 0, 11, 0, 0);
        DUE.is("5: 14 apart", y.sum(), 88);
        y.weights(0, 0, 0, 13, 0);
        DUE.is("5: one pitch, two names", y.sum(), 13);
        y.weights(0, 0, 0, 0, 17);
        DUE.is("5: one key further", y.sum(), 17);
        y.weights(1, 7, 11, 13, 17);
        DUE.is("5: all of them", y.sum(), 13 + 7 + 88 + 13 + 17);
        y.weights(-1, 0, 0, 0, 0);
        DUE.is("5: all of them still", y.sum(), 138);
    }

    private static void clear() {
        SpellPitch x = Scores.line(60, 60);
        x.pitch(64, true);
        x.weights(3, 0, 0, 0, 0);
        x.fix(0, 27);
        x.key(0, 7);
        DUE.is("6: before", x.sum(), 21);
        DUE.is("6: how many there were", x.clear(), 3);
        DUE.is("6: none any more", x.clear(), 0);
        DUE.is("6: sum()", x.sum(), 0);
        DUE.is("6: signs()", x.signs(), 0);
        DUE.is("6: ties()", x.ties(), 1);
        DUE.is("6: turned()", x.turned(), 0);
        DUE.is("6: name(0, 0)", x.name(0, 0), -1);
        DUE.is("6: none before", x.pitch(60, true), -3);
        DUE.is("6: from 0 again", x.pitch(60, false), 0);
        DUE.is("6: what was told is gone", x.name(0, 0), 15);
        DUE.is("6: its key too", x.key(0, 7), 15);
        DUE.is("6: its name too", x.fix(0, 27), 35);
        DUE.is("6: the weights stay", x.sum(), 21);
    }
}
