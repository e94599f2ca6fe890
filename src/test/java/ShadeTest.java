/** Promises 18 to 21: shades. */
public final class ShadeTest {
    private static final Due DUE = new Due("ShadeTest");
    private static final int MIN = Integer.MIN_VALUE;
    private static final int MAX = Integer.MAX_VALUE;

    public static void main(String[] args) {
        micro();
        microOfSigns();
        step();
        equal();
        scale();
        DUE.end();
    }

    private static void micro() {
        SpellPitch x = new SpellPitch();
        x.pitch(60, false);
        int[] thirds = {6, 6, 7, 7, 8, 8, 9, 9, 10, 10, 11, 11, 12};
        int[] halves = {7, 7, 8, 8, 8, 9, 9, 9, 10, 10, 10, 11, 11};
        for (int n = -6; n <= 6; n++) {
            DUE.is("18: C and " + n + " by 2", x.micro(0, n, 2), thirds[n + 6]);
            DUE.is("18: C and " + n + " by 3", x.micro(0, n, 3), halves[n + 6]);
        }
        DUE.is("18: no sound 1", x.micro(1, 0, 2), -1);
        DUE.is("18: no sound -1", x.micro(-1, 0, 2), -1);
        DUE.is("18: no sound MIN", x.micro(MIN, 0, 2), -1);
        DUE.is("18: -1 is ahead of -2", x.micro(1, 7, 4), -1);
        DUE.is("18: 7", x.micro(0, 7, 2), -2);
        DUE.is("18: -7", x.micro(0, -7, 2), -2);
        DUE.is("18: MIN", x.micro(0, MIN, 2), -2);
        DUE.is("18: MAX", x.micro(0, MAX, 3), -2);
        DUE.is("18: by 1", x.micro(0, 0, 1), -2);
        DUE.is("18: by 4", x.micro(0, 0, 4), -2);
        DUE.is("18: by 0", x.micro(0, 0, 0), -2);
        DUE.is("18: by -2", x.micro(0, 0, -2), -2);
        DUE.is("18: by MIN", x.micro(0, 0, MIN), -2);
    }

    private static void microOfSigns() {
        SpellPitch x = new SpellPitch();
        x.pitch(60, false);
        x.pitch(62, false);
        x.fix(0, 3);
        x.fix(1, 29);
        DUE.is("18: the lowest by 2", x.micro(0, -6, 2), 0);
        DUE.is("18: the lowest by 3", x.micro(0, -6, 3), 3);
        DUE.is("18: the highest by 2", x.micro(1, 6, 2), 18);
        DUE.is("18: the highest by 3", x.micro(1, 6, 3), 15);
        DUE.is("18: -11 by 2, the lower one", x.micro(0, 1, 2), 3);
        DUE.is("18: 11 by 2, the lower one", x.micro(1, -1, 2), 14);
        DUE.is("18: -11 by 3, the nearer one", x.micro(0, 1, 3), 5);
        DUE.is("18: 11 by 3, the nearer one", x.micro(1, -1, 3), 13);
        x.fix(0, 27);
        DUE.is("18: as it is meant now", x.micro(0, 0, 2), 12);
    }

    private static void step() {
        SpellPitch x = new SpellPitch();
        int[][] known = {
            {0, 12, 0}, {1, 12, 1}, {11, 12, 11}, {12, 12, 0}, {25, 12, 1}, {-1, 12, 11}, {-12, 12, 0},
            {-13, 12, 11}, {5, -3, -1}, {6, -3, 0}, {-5, -3, -2}, {7, 1, 0}, {7, -1, 0}, {MIN, -1, 0},
            {MIN, 1, 0}, {MAX, -1, 0}, {MIN, MAX, MAX - 1}, {MAX, MIN, -1}, {MIN, MIN, 0}, {MAX, MAX, 0},
            {1, MIN, MIN + 1}, {-1, MAX, MAX - 1}, {-1, MIN, -1}, {0, MIN, 0}, {0, -7, 0}};
        for (int[] row : known) {
            DUE.is("19: " + row[0] + " by " + row[1], x.step(row[0], row[1]), row[2]);
        }
        int[] numbers = {0, 1, -1, 7, MIN, MAX};
        for (int number : numbers) {
            int thrown = 0;
            try {
                x.step(number, 0);
            } catch (ArithmeticException e) {
                thrown = 1;
            }
            DUE.is("19: " + number + " by 0 throws", thrown, 1);
        }
        DUE.is("19: and then goes on", x.pitch(60, false), 0);
    }

    private static void equal() {
        for (int name = 0; name < 35; name++) {
            SpellPitch x = new SpellPitch();
            for (int other = 0; other < 35; other++) {
                int far = Math.abs(name - other);
                int want = far == 0 ? 2 : far == 12 || far == 24 ? 1 : 0;
                DUE.is("20: " + name + " and " + other, x.equal(name, other), want);
            }
        }
        SpellPitch x = new SpellPitch();
        int[] wrong = {-1, 35, MIN, MAX};
        for (int w : wrong) {
            DUE.is("20: " + w + " first", x.equal(w, 0), -2);
            DUE.is("20: " + w + " second", x.equal(0, w), -2);
            DUE.is("20: " + w + " twice", x.equal(w, w), -2);
        }
    }

    private static void scale() {
        SpellPitch x = new SpellPitch();
        // The signs of the letters C .. B, and 2, by key.
        String[] known = {
            "1111111", "1112111", "2112111", "2112211", "2212211", "2212221", "2222221", "2222222",
            "2223222", "3223222", "3223322", "3323322", "3323332", "3333332", "3333333"};
        for (int key = 0; key < 15; key++) {
            for (int letter = 0; letter < 7; letter++) {
                DUE.is("21: letter " + letter + " in " + key, x.scale(key, letter), known[key].charAt(letter) - '0');
            }
        }
        int[] wrong = {-1, MIN, MAX};
        for (int w : wrong) {
            DUE.is("21: key " + w, x.scale(w, 0), -2);
            DUE.is("21: letter " + w, x.scale(0, w), -2);
        }
        DUE.is("21: key 15", x.scale(15, 0), -2);
        DUE.is("21: letter 7", x.scale(0, 7), -2);
    }
}
