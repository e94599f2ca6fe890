/** Objects with SOUNDS in them, to begin a test with. */
final class Scores {
    private Scores() {
    }

    /** Each at a MOMENT of its own. */
    static SpellPitch line(int... pitches) {
        SpellPitch x = new SpellPitch();
        for (int pitch : pitches) {
            x.pitch(pitch, false);
        }
        return x;
    }

    /** All at one MOMENT. */
    static SpellPitch chord(int... pitches) {
        SpellPitch x = new SpellPitch();
        for (int i = 0; i < pitches.length; i++) {
            x.pitch(pitches[i], i > 0);
        }
        return x;
    }
}
