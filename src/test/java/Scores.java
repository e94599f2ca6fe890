/** Objects with SOUNDS in them, to begin a test with. */
final class Scores {
    static final int UNTOLD_KEY = 15;
    static final int UNTOLD_NAME = 35;

    private Scores() {
    }

    /** Each at a MOMENT of its own. */
    static SpellPitch line(int... pitches) {
        SpellPitch x = new SpellPitch();
        for (int pitch : pitches) {
            x.pitch(pitch, false);
        }
        return x;
    }

    /** All at one MOMENT. */
    static SpellPitch chord(int... pitches) {
        SpellPitch x = new SpellPitch();
        for (int i = 0; i < pitches.length; i++) {
            x.pitch(pitches[i], i > 0);
        }
        return x;
    }

    /** SOUNDS of these NAMES, told, from 60 to 71, each at a MOMENT of its own. */
    static SpellPitch named(int... names) {
        SpellPitch x = new SpellPitch();
        for (int name : names) {
            moment(x, UNTOLD_KEY, pitchOf(name), name);
        }
        return x;
    }

    /** The PITCH from 60 to 71 as which a NAME SOUNDS. */
    static int pitchOf(int name) {
        return 60 + Math.floorMod(7 * (name - 15), 12);
    }

    /** A MOMENT more: its KEY, and the PITCH and the NAME of each SOUND (or that they are not told). */
    static void moment(SpellPitch x, int key, int... pitchesAndNames) {
        for (int i = 0; i < pitchesAndNames.length; i += 2) {
            int sound = x.pitch(pitchesAndNames[i], i > 0);
            x.key(sound, key);
            x.fix(sound, pitchesAndNames[i + 1]);
        }
    }

    /** As many SOUNDS as there is room for, all of one PITCH, so many at each MOMENT. */
    static SpellPitch full(int pitch, int together) {
        SpellPitch x = new SpellPitch();
        for (int i = 0; i < 18; i++) {
            x.pitch(pitch, i % together != 0);
        }
        return x;
    }
}
