/** 'What it is', and 'Terms' but for costs and refusals: where things end, and where they wrap around. */
final class TermsBounds {
    private final Bounds b;

    TermsBounds(Bounds b) {
        this.b = b;
    }

    void run() {
        calls();
        names();
        letters();
        signs();
        pitches();
        soundsAs();
        examples();
        modulo();
        octaves();
        places();
        keys();
        signsOfKeys();
        sounds();
        moments();
        choiceOfNames();
        choiceOfKeys();
        intervals();
        steps();
        halves();
        sorts();
    }

    private void calls() {
        b.sentence("What it is", "An object is used for at most 512 calls after it has been made");
        SpellPitch x = new SpellPitch();
        for (int round = 0; round < 25; round++) {
            b.is("clear()", x.clear(), round == 0 ? 0 : 18);
            for (int i = 0; i < 18; i++) {
                b.is("pitch(..)", x.pitch(60 + (round + i) % 12, i % 3 != 0), i);
            }
            b.is("sum() is refused", x.sum() < 0 ? 1 : 0, 0);
        }
        b.is("the 501st call", x.clear(), 18);
        int[] pitches = {61, 63, 66, 68, 70, 60, 62, 64, 65};
        for (int i = 0; i < pitches.length; i++) {
            b.is("pitch(..)", x.pitch(pitches[i], false), i);
        }
        SpellPitch fresh = Scores.line(pitches);
        b.is("the 511th call, sum()", x.sum(), fresh.sum());
        b.is("the 512th call, name(4, 0)", x.name(4, 0), fresh.name(4, 0));
    }

    private void names() {
        b.sentence("Terms", "NAMES are 0 .. 34");
        SpellPitch lowest = Scores.line(63);
        b.is("fix 0 at 63", lowest.fix(0, 0), 35);
        b.is("its NAME", lowest.name(0, 0), 0);
        b.is("fix -12, which would SOUND so", lowest.fix(0, -12), -2);
        SpellPitch highest = Scores.line(61);
        b.is("fix 34 at 61", highest.fix(0, 34), 35);
        b.is("its NAME", highest.name(0, 0), 34);
        b.is("fix 46, which would SOUND so", highest.fix(0, 46), -2);
        b.is("equal(0, 34)", lowest.equal(0, 34), 0);
        b.is("equal(-1, 34)", lowest.equal(-1, 34), -2);
        b.is("equal(0, 35)", lowest.equal(0, 35), -2);
    }

    private void letters() {
        b.sentence("Terms", "NAME n has the LETTER 4 (n - 15) modulo 7 (0 C, 1 D, .. 6 B)");
        int[] letters = {3, 0, 4, 1, 5, 2, 6};
        for (int name = 0; name < 35; name++) {
            b.is("LETTER of " + name, Scores.named(name).name(0, 1), letters[name % 7]);
        }
    }

    private void signs() {
        b.sentence("Terms", "SIGNS, (n - 14) by 7, rounded down: -2 .. 2 (above 0 sharps, below 0 flats)");
        int[][] edges = {{0, -2}, {6, -2}, {7, -1}, {13, -1}, {14, 0}, {20, 0}, {21, 1}, {27, 1}, {28, 2}, {34, 2}};
        for (int[] edge : edges) {
            b.is("SIGNS of " + edge[0] + ", and 2", Scores.named(edge[0]).name(0, 2), edge[1] + 2);
        }
    }

    private void pitches() {
        b.sentence("Terms", "PITCHES are 0 .. 127, 60 the middle C");
        b.is("pitch(-1)", new SpellPitch().pitch(-1, false), -2);
        b.is("pitch(128)", new SpellPitch().pitch(128, false), -2);
        b.is("pitch(0)", new SpellPitch().pitch(0, false), 0);
        b.is("pitch(127)", new SpellPitch().pitch(127, false), 0);
        b.is("LETTER of 60", Scores.line(60).name(0, 1), 0);
        b.is("NAME of 60", Scores.line(60).name(0, 0), 15);
        b.is("NAME of 0", Scores.line(0).name(0, 0), 15);
        b.is("NAME of 127", Scores.line(127).name(0, 0), 16);
    }

    private void soundsAs() {
        b.sentence("Terms", "A NAME n SOUNDS as a PITCH p, if 7 (n - 15) less p is a multiple of 12.");
        for (int pitch = 0; pitch < 128; pitch++) {
            SpellPitch x = Scores.line(pitch);
            for (int name = 0; name < 35; name++) {
                boolean fits = Math.floorMod(7 * (name - 15) - pitch, 12) == 0;
                b.is(name + " at " + pitch, x.fix(0, name) >= 0 ? 1 : 0, fits ? 1 : 0);
            }
        }
    }

    private void examples() {
        b.sentence("Terms", "So 15 is C, 16 G, 14 F, 22 C with a sharp, 8 C with a flat.");
        int[][] known = {{15, 60, 0, 0}, {16, 67, 4, 0}, {14, 65, 3, 0}, {22, 61, 0, 1}, {8, 59, 0, -1}};
        for (int[] row : known) {
            SpellPitch x = Scores.line(row[1]);
            b.is("fix(0, " + row[0] + ")", x.fix(0, row[0]), 35);
            b.is("LETTER of " + row[0], x.name(0, 1), row[2]);
            b.is("SIGNS of " + row[0], x.name(0, 2), row[3] + 2);
        }
    }

    private void modulo() {
        b.sentence("Terms", "Modulo is never below 0.");
        for (int name = 0; name < 15; name++) {
            int letter = Scores.named(name).name(0, 1);
            b.is("LETTER of " + name + " is 0 .. 6", letter >= 0 && letter <= 6 ? 1 : 0, 1);
        }
        for (int interval = 0; interval < 19; interval++) {
            int steps = new SpellPitch().quality(interval, 0);
            b.is("STEPS of " + interval + " are 0 .. 6", steps >= 0 && steps <= 6 ? 1 : 0, 1);
        }
    }

    private void octaves() {
        b.sentence("Terms", "(PITCH less SIGNS and 12 more) by 12, rounded down (60 as C: 6)");
        int[][] edges = {
            {0, 15, 1}, {0, 27, 0}, {0, 3, 1}, {1, 34, 0}, {1, 22, 1}, {11, 20, 1}, {11, 8, 2}, {10, 1, 2},
            {12, 15, 2}, {12, 27, 1}, {13, 34, 1}, {58, 1, 6}, {59, 20, 5}, {59, 8, 6}, {60, 15, 6}, {60, 27, 5},
            {60, 3, 6}, {61, 34, 5}, {61, 22, 6}, {71, 20, 6}, {71, 8, 7}, {118, 1, 11}, {119, 20, 10},
            {119, 8, 11}, {120, 15, 11}, {120, 27, 10}, {121, 34, 10}, {127, 16, 11}, {127, 4, 11}, {127, 28, 11}};
        for (int[] edge : edges) {
            SpellPitch x = Scores.line(edge[0]);
            b.is(edge[0] + " can be " + edge[1], x.fix(0, edge[1]), 35);
            b.is("OCTAVE of " + edge[1] + " at " + edge[0], x.name(0, 3), edge[2]);
        }
    }

    private int octavesBetween(int pitch, int name, int next, int nextName) {
        SpellPitch x = new SpellPitch();
        Scores.moment(x, 7, pitch, name);
        Scores.moment(x, 7, next, nextName);
        return x.interval(0, 1, 1) - 12;
    }

    private void places() {
        b.sentence("Terms", "Its PLACE: 7 OCTAVE and LETTER.");
        b.is("B up to C", octavesBetween(59, 20, 60, 15), 0);
        b.is("C down to B", octavesBetween(60, 15, 59, 20), -1);
        b.is("B sharp up to C, of one PITCH", octavesBetween(60, 27, 60, 15), 0);
        b.is("C down to B sharp, of one PITCH", octavesBetween(60, 15, 60, 27), -1);
        b.is("C flat down to B, of one PITCH", octavesBetween(59, 8, 59, 20), -1);
        b.is("B up to C flat, of one PITCH", octavesBetween(59, 20, 59, 8), 0);
        b.is("B sharp up to C sharp", octavesBetween(60, 27, 61, 22), 0);
        b.is("B below 0 up to C at 0", octavesBetween(0, 27, 0, 15), 0);
    }

    private void keys() {
        b.sentence("Terms", "KEYS are 0 .. 14: KEY k has the NAMES k + 7 .. k + 13.");
        for (int name = 0; name < 35; name++) {
            SpellPitch x = Scores.named(name);
            x.weights(1, 0, 0, 0, 0);
            for (int key = 0; key < 15; key++) {
                x.key(0, key);
                int out = name < key + 7 ? key + 7 - name : name > key + 13 ? name - key - 13 : 0;
                b.is("how far " + name + " is out of " + key, x.sum(), out);
            }
            b.is("no KEY 16", x.key(0, 16), -2);
        }
        SpellPitch every = Scores.line(60);
        every.weights(0, 0, 0, 0, 0);
        every.fix(0, 15);
        b.is("how many there are", every.ties(), 15);
    }

    private void signsOfKeys() {
        b.sentence("Terms", "(7 has no signs; the higher ones have sharps.)");
        SpellPitch x = new SpellPitch();
        for (int letter = 0; letter < 7; letter++) {
            b.is("scale(7, " + letter + ")", x.scale(7, letter), 2);
            b.is("scale(8, " + letter + ")", x.scale(8, letter), letter == 3 ? 3 : 2);
            b.is("scale(6, " + letter + ")", x.scale(6, letter), letter == 6 ? 1 : 2);
            b.is("scale(14, " + letter + ")", x.scale(14, letter), 3);
            b.is("scale(0, " + letter + ")", x.scale(0, letter), 1);
        }
    }

    private void sounds() {
        b.sentence("Terms", "SOUNDS are numbered 0, 1, .. (18 at most), each with a PITCH");
        SpellPitch x = new SpellPitch();
        for (int i = 0; i < 18; i++) {
            b.is("pitch number " + i, x.pitch(7 * i, i % 2 == 1), i);
        }
        b.is("one more", x.pitch(60, false), -4);
        for (int i = 0; i < 18; i++) {
            b.is("the PITCH of " + i, x.transpose(i, 19, 1), 7 * i);
        }
        b.is("no SOUND 18", x.keyOf(18), -1);
        b.is("no SOUND -1", x.keyOf(-1), -1);
    }

    private void moments() {
        b.sentence("Terms", "in MOMENTS 0, 1, .., up to three SOUNDS at one");
        SpellPitch x = new SpellPitch();
        for (int moment = 0; moment < 6; moment++) {
            b.is("first of " + moment, x.pitch(60, false), 3 * moment);
            b.is("second of " + moment, x.pitch(64, true), 3 * moment + 1);
            b.is("third of " + moment, x.pitch(67, true), 3 * moment + 2);
            b.is("no fourth of " + moment, x.pitch(72, true), -3);
            b.is("its KEY is its own", x.key(3 * moment + 2, moment % 2 * 12), 15);
        }
        for (int turn = 0; turn < 5; turn++) {
            b.is("TURN " + turn, x.turn(turn), turn + 1);
        }
    }

    private void choiceOfNames() {
        b.sentence("Terms", "A CHOICE gives each SOUND a NAME that SOUNDS as its PITCH (if one is told for it that one)");
        for (int pitch = 0; pitch < 128; pitch++) {
            SpellPitch x = Scores.line(pitch);
            x.key(0, 7);
            x.weights(0, 0, 0, 0, 0);
            b.is("how many NAMES " + pitch + " has", x.ties(), pitch % 12 == 8 ? 2 : 3);
        }
        SpellPitch told = new SpellPitch();
        told.weights(20, 20, 20, 20, 20);
        Scores.moment(told, 14, 63, 0);
        b.is("the lowest NAME in the highest KEY", told.name(0, 0), 0);
        b.is("there is no other", told.ties(), 1);
        b.is("what it costs", told.sum(), 20 * 21 + 20);
    }

    private void choiceOfKeys() {
        b.sentence("Terms", "and each MOMENT a KEY (if one is told for it that one)");
        SpellPitch x = Scores.line(60, 60, 60);
        x.weights(20, 20, 20, 20, 20);
        x.key(0, 0);
        x.key(2, 14);
        b.is("the lowest", x.keyOf(0), 0);
        b.is("the highest", x.keyOf(2), 14);
        SpellPitch free = Scores.line(60, 60);
        free.weights(0, 0, 0, 0, 0);
        free.fix(0, 15);
        free.fix(1, 15);
        b.is("15 for each", free.ties(), 225);
        free.key(0, 14);
        b.is("one told", free.ties(), 15);
        free.key(1, 0);
        b.is("both told", free.ties(), 1);
    }

    private void intervals() {
        b.sentence("Terms", "INTERVALS are 0 .. 38: INTERVAL v goes up by f = v - 19 along the line of NAMES");
        SpellPitch x = Scores.named(0, 19, 15);
        b.is("from 0 to 19", x.interval(0, 1, 0), 38);
        b.is("from 19 to 0", x.interval(1, 0, 0), 0);
        b.is("from 15 to 15", x.interval(2, 2, 0), 19);
        b.is("0 up by 38", x.transpose(0, 38, 0), 19);
        b.is("19 up by 0", x.transpose(1, 0, 0), 0);
        b.is("quality(39, 0)", x.quality(39, 0), -2);
        b.is("quality(-1, 0)", x.quality(-1, 0), -2);
    }

    private void steps() {
        b.sentence("Terms", "it has STEPS, 4 f modulo 7");
        SpellPitch x = new SpellPitch();
        int[] steps = {1, 5, 2, 6, 3, 0, 4};
        for (int v = 0; v <= 38; v++) {
            b.is("STEPS of " + v, x.quality(v, 0), steps[v % 7]);
        }
    }

    private void halves() {
        b.sentence("Terms", "HALVES, 7 f less 12 times (4 f by 7, rounded down)");
        SpellPitch x = new SpellPitch();
        int[] halves = {
            -1, 6, 1, 8, 3, -2, 5, 0, 7, 2, 9, 4, -1, 6, 1, 8, 3, 10, 5, 0,
            7, 2, 9, 4, 11, 6, 1, 8, 3, 10, 5, 12, 7, 2, 9, 4, 11, 6, 13};
        for (int v = 0; v <= 38; v++) {
            b.is("HALVES of " + v + ", and 2", x.quality(v, 1), halves[v] + 2);
        }
    }

    private void sorts() {
        b.sentence("Terms", "Its SORT: 0 perfect: f is -1 .. 1; 1 great: 2 .. 5; 2 small: -5 .. -2; 3 more: 6 .. 12; "
            + "4 less: -12 .. -6; 5 twice more: 13 .. 19; 6 twice less: -19 .. -13.");
        SpellPitch x = new SpellPitch();
        int[][] sorts = {{-1, 1}, {2, 5}, {-5, -2}, {6, 12}, {-12, -6}, {13, 19}, {-19, -13}};
        for (int sort = 0; sort < 7; sort++) {
            for (int f = sorts[sort][0]; f <= sorts[sort][1]; f++) {
                b.is("SORT of f = " + f, x.quality(f + 19, 2), sort);
            }
        }
    }
}
