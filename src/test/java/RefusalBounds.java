/** 'Terms', REFUSALS: they are below 0, change nothing, and the first that fits is the answer. */
final class RefusalBounds {
    private static final String CHANGE_NOTHING = "REFUSALS are answers below 0, and change nothing";
    private static final int KEY = Scores.UNTOLD_KEY;
    private static final int NAME = Scores.UNTOLD_NAME;
    private static final int MIN = Bounds.MIN;

    private final Bounds b;

    /** A call on an object, and what it answers. */
    private interface Call {
        int on(SpellPitch x);
    }

    RefusalBounds(Bounds b) {
        this.b = b;
    }

    void run() {
        nothingChanges();
        nothingChangesWhenFull();
        nothingChangesWhenEmpty();
        noSuch();
        outsideFirst();
        notInThisState();
        noRoom();
        theFirstThatFits();
    }

    /** 8 SOUNDS in 4 MOMENTS, the last one with three, that pay for every weight. */
    private static SpellPitch score() {
        SpellPitch x = new SpellPitch();
        x.weights(3, 5, 7, 11, 13);
        Scores.moment(x, 0, 60, 3, 62, 29);
        Scores.moment(x, 12, 60, 27, 64, NAME);
        Scores.moment(x, KEY, 66, NAME);
        Scores.moment(x, 9, 65, NAME, 68, NAME, 70, NAME);
        return x;
    }

    /** The same, and as many more as there is room for, each at a MOMENT of its own. */
    private static SpellPitch fullScore() {
        SpellPitch x = score();
        for (int i = 8; i < 18; i++) {
            x.pitch(60 + i, false);
        }
        return x;
    }

    private void same(String call, SpellPitch x, SpellPitch twin, int sounds) {
        String after = "after " + call + ", ";
        b.is(after + "sum()", x.sum(), twin.sum());
        b.is(after + "signs()", x.signs(), twin.signs());
        b.is(after + "ties()", x.ties(), twin.ties());
        b.is(after + "turned()", x.turned(), twin.turned());
        b.is(after + "turn(0)", x.turn(0), twin.turn(0));
        for (int sound = 0; sound <= sounds; sound++) {
            b.is(after + "name(" + sound + ", 0)", x.name(sound, 0), twin.name(sound, 0));
            b.is(after + "keyOf(" + sound + ")", x.keyOf(sound), twin.keyOf(sound));
            b.is(after + "transpose(" + sound + ", 19, 1)", x.transpose(sound, 19, 1), twin.transpose(sound, 19, 1));
        }
        for (int sound = 0; sound < sounds; sound++) {
            b.is(after + "key(" + sound + ", 15)", x.key(sound, 15), twin.key(sound, 15));
            b.is(after + "fix(" + sound + ", 35)", x.fix(sound, 35), twin.fix(sound, 35));
        }
        b.is(after + "sum() of what is not told", x.sum(), twin.sum());
        b.is(after + "pitch(60, true)", x.pitch(60, true), twin.pitch(60, true));
        b.is(after + "pitch(60, false)", x.pitch(60, false), twin.pitch(60, false));
        b.is(after + "clear()", x.clear(), twin.clear());
    }

    private void refused(String call, int want, Call made) {
        SpellPitch x = score();
        x.sum();
        b.is(call, made.on(x), want);
        same(call, x, score(), 8);
    }

    private void nothingChanges() {
        b.sentence("Terms", CHANGE_NOTHING);
        refused("pitch(-1, false)", -2, x -> x.pitch(-1, false));
        refused("pitch(128, true)", -2, x -> x.pitch(128, true));
        refused("pitch(60, true)", -3, x -> x.pitch(60, true));
        refused("key(8, 0)", -1, x -> x.key(8, 0));
        refused("key(0, 16)", -2, x -> x.key(0, 16));
        refused("key(4, -1)", -2, x -> x.key(4, -1));
        refused("fix(8, 35)", -1, x -> x.fix(8, 35));
        refused("fix(0, 36)", -2, x -> x.fix(0, 36));
        refused("fix(0, 16)", -2, x -> x.fix(0, 16));
        refused("fix(4, -1)", -2, x -> x.fix(4, -1));
        refused("weights(21, 1, 1, 1, 1)", -2, x -> x.weights(21, 1, 1, 1, 1));
        refused("weights(1, 21, 1, 1, 1)", -2, x -> x.weights(1, 21, 1, 1, 1));
        refused("weights(1, 1, 21, 1, 1)", -2, x -> x.weights(1, 1, 21, 1, 1));
        refused("weights(1, 1, 1, 21, 1)", -2, x -> x.weights(1, 1, 1, 21, 1));
        refused("weights(1, 1, 1, 1, 21)", -2, x -> x.weights(1, 1, 1, 1, 21));
        refused("weights(1, 1, 1, 1, -1)", -2, x -> x.weights(1, 1, 1, 1, -1));
        refused("name(8, 0)", -1, x -> x.name(8, 0));
        refused("name(0, 4)", -2, x -> x.name(0, 4));
        refused("keyOf(8)", -1, x -> x.keyOf(8));
        refused("turn(17)", -1, x -> x.turn(17));
        refused("interval(0, 8, 0)", -1, x -> x.interval(0, 8, 0));
        refused("interval(0, 2, 2)", -2, x -> x.interval(0, 2, 2));
        refused("interval(0, 2, 0)", -3, x -> x.interval(0, 2, 0));
        refused("quality(39, 0)", -2, x -> x.quality(39, 0));
        refused("add(39, 0)", -2, x -> x.add(39, 0));
        refused("add(0, 0)", -3, x -> x.add(0, 0));
        refused("transpose(8, 19, 0)", -1, x -> x.transpose(8, 19, 0));
        refused("transpose(0, 39, 0)", -2, x -> x.transpose(0, 39, 0));
        refused("transpose(0, 15, 0)", -3, x -> x.transpose(0, 15, 0));
        refused("micro(8, 0, 2)", -1, x -> x.micro(8, 0, 2));
        refused("micro(0, 7, 2)", -2, x -> x.micro(0, 7, 2));
        refused("micro(0, 0, 4)", -2, x -> x.micro(0, 0, 4));
        refused("equal(35, 0)", -2, x -> x.equal(35, 0));
        refused("scale(15, 0)", -2, x -> x.scale(15, 0));
    }

    private void nothingChangesWhenFull() {
        b.sentence("Terms", CHANGE_NOTHING);
        for (boolean with : new boolean[] {false, true}) {
            SpellPitch x = fullScore();
            x.sum();
            b.is("pitch(60, " + with + ")", x.pitch(60, with), -4);
            same("pitch(60, " + with + ")", x, fullScore(), 18);
        }
    }

    private void nothingChangesWhenEmpty() {
        b.sentence("Terms", CHANGE_NOTHING);
        SpellPitch x = new SpellPitch();
        b.is("pitch(60, true)", x.pitch(60, true), -3);
        b.is("pitch(-1, true)", x.pitch(-1, true), -2);
        b.is("key(0, 3)", x.key(0, 3), -1);
        b.is("fix(0, 15)", x.fix(0, 15), -1);
        b.is("weights(0, 0, 0, 0, 21)", x.weights(0, 0, 0, 0, 21), -2);
        same("refusals", x, new SpellPitch(), 0);
        b.is("pitch(60, false)", x.pitch(60, false), 0);
        b.is("its KEY was not told", x.key(0, 14), 15);
        b.is("its NAME was not told", x.fix(0, 15), 35);
        b.is("OUT is still 2", x.sum(), 12);
    }

    private void noSuch() {
        b.sentence("Terms", "-1 there is no such SOUND, TURN");
        SpellPitch x = score();
        for (int sound : new int[] {-1, 8, 17, 18, MIN, Bounds.MAX}) {
            b.is("key of " + sound, x.key(sound, 0), -1);
            b.is("fix of " + sound, x.fix(sound, 35), -1);
            b.is("name of " + sound, x.name(sound, 0), -1);
            b.is("keyOf " + sound, x.keyOf(sound), -1);
            b.is("interval from " + sound, x.interval(sound, 0, 0), -1);
            b.is("interval to " + sound, x.interval(0, sound, 0), -1);
            b.is("transpose of " + sound, x.transpose(sound, 19, 0), -1);
            b.is("micro of " + sound, x.micro(sound, 0, 2), -1);
            b.is("turn " + sound, x.turn(sound), -1);
        }
    }

    private void outsideFirst() {
        b.sentence("Terms", "-2 outside its bounds");
        SpellPitch x = score();
        b.is("pitch(128, false)", x.pitch(128, false), -2);
        b.is("key(7, 16)", x.key(7, 16), -2);
        b.is("fix(7, 36)", x.fix(7, 36), -2);
        b.is("weights(21, 0, 0, 0, 0)", x.weights(21, 0, 0, 0, 0), -2);
        b.is("name(7, 4)", x.name(7, 4), -2);
        b.is("interval(7, 7, 2)", x.interval(7, 7, 2), -2);
        b.is("quality(0, 3)", x.quality(0, 3), -2);
        b.is("add(19, 39)", x.add(19, 39), -2);
        b.is("transpose(7, 19, 2)", x.transpose(7, 19, 2), -2);
        b.is("micro(7, -7, 2)", x.micro(7, -7, 2), -2);
        b.is("equal(0, -1)", x.equal(0, -1), -2);
        b.is("scale(0, 7)", x.scale(0, 7), -2);
    }

    private void notInThisState() {
        b.sentence("Terms", "-3 not in this state, there is none");
        SpellPitch x = score();
        b.is("pitch(60, true)", x.pitch(60, true), -3);
        b.is("interval(0, 1, 0)", x.interval(0, 1, 0), -3);
        b.is("add(38, 38)", x.add(38, 38), -3);
        b.is("transpose(0, 0, 0)", x.transpose(0, 0, 0), -3);
    }

    private void noRoom() {
        b.sentence("Terms", "-4 no room");
        b.is("pitch(60, false)", fullScore().pitch(60, false), -4);
        b.is("pitch(60, true)", fullScore().pitch(60, true), -4);
    }

    private void theFirstThatFits() {
        b.sentence("Terms", "the first that fits");
        SpellPitch x = score();
        b.is("-2 ahead of -3, pitch", x.pitch(128, true), -2);
        b.is("-1 ahead of -2, key", x.key(8, 16), -1);
        b.is("-1 ahead of -2, fix", x.fix(8, 36), -1);
        b.is("-1 ahead of -2, name", x.name(8, 4), -1);
        b.is("-1 ahead of -2, interval", x.interval(8, 0, 2), -1);
        b.is("-1 ahead of -2, interval to", x.interval(0, 8, 2), -1);
        b.is("-2 ahead of -3, interval", x.interval(0, 1, 2), -2);
        b.is("-2 ahead of -3, add", x.add(-1, 0), -2);
        b.is("-1 ahead of -2, transpose", x.transpose(8, 39, 2), -1);
        b.is("-2 ahead of -3, transpose", x.transpose(0, 0, 2), -2);
        b.is("-1 ahead of -2, micro", x.micro(8, 7, 4), -1);
        SpellPitch full = Scores.full(60, 3);
        b.is("-2 ahead of -4, pitch", full.pitch(-1, false), -2);
        b.is("-3 ahead of -4, pitch", full.pitch(60, true), -3);
        b.is("-2 ahead of -3 and -4, pitch", full.pitch(-1, true), -2);
        b.is("-4 if no other fits", full.pitch(60, false), -4);
    }
}
