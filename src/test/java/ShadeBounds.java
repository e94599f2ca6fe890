/** Promises 18 to 21 at their boundaries. */
final class ShadeBounds {
    private static final int MIN = Bounds.MIN;
    private static final int MAX = Bounds.MAX;

    private final Bounds b;

    ShadeBounds(Bounds b) {
        this.b = b;
    }

    void run() {
        sixths();
        nearest();
        microNoSound();
        microOutside();
        microByOutside();
        left();
        byZero();
        howTwoSound();
        noName();
        signsInAKey();
        noneSuch();
    }

    // ---- promise 18

    private void sixths() {
        b.sentence("Promise 18", "With a SOUND, as MEANT, n sixths of a half step higher: its SIGNS as whole parts of so"
            + " many sixths (2 or 3)");
        int[] names = {3, 8, 15, 22, 29};
        for (int signs = -2; signs <= 2; signs++) {
            SpellPitch x = Scores.named(names[signs + 2]);
            b.is(signs + " SIGNS by 2", x.micro(0, 0, 2), 3 * signs + 9);
            b.is(signs + " SIGNS by 3", x.micro(0, 0, 3), 2 * signs + 9);
            b.is(signs + " SIGNS and 6 by 2", x.micro(0, 6, 2), 3 * (signs + 1) + 9);
            b.is(signs + " SIGNS and 6 by 3", x.micro(0, 6, 3), 2 * (signs + 1) + 9);
            b.is(signs + " SIGNS less 6 by 2", x.micro(0, -6, 2), 3 * (signs - 1) + 9);
            b.is(signs + " SIGNS less 6 by 3", x.micro(0, -6, 3), 2 * (signs - 1) + 9);
        }
    }

    private void nearest() {
        b.sentence("Promise 18", "the nearest, of two as near the lower one; and 9.");
        // C, from 6 sixths lower to 6 sixths higher.
        int[] byTwo = {6, 6, 7, 7, 8, 8, 9, 9, 10, 10, 11, 11, 12};
        int[] byThree = {7, 7, 8, 8, 8, 9, 9, 9, 10, 10, 10, 11, 11};
        int[] names = {3, 8, 15, 22, 29};
        for (int signs = -2; signs <= 2; signs++) {
            SpellPitch x = Scores.named(names[signs + 2]);
            for (int n = -6; n <= 6; n++) {
                b.is(signs + " SIGNS and " + n + " by 2", x.micro(0, n, 2), byTwo[n + 6] + 3 * signs);
                b.is(signs + " SIGNS and " + n + " by 3", x.micro(0, n, 3), byThree[n + 6] + 2 * signs);
            }
        }
    }

    private void microNoSound() {
        b.sentence("Promise 18", "-1");
        SpellPitch x = Scores.line(60, 62);
        b.outside("micro(?, 0, 2)", 0, 1, -1, sound -> x.micro(sound, 0, 2));
        b.outside("micro(?, 7, 3)", 0, 1, -1, sound -> x.micro(sound, 7, 3));
        b.outside("micro(?, 0, 4)", 0, 1, -1, sound -> x.micro(sound, 0, 4));
        x.clear();
        b.is("none after clear()", x.micro(0, 0, 2), -1);
    }

    private void microOutside() {
        b.sentence("Promise 18", "-2 n is not -6 .. 6");
        SpellPitch x = Scores.line(60);
        b.outside("micro(0, ?, 2)", -6, 6, -2, n -> x.micro(0, n, 2));
        b.outside("micro(0, ?, 3)", -6, 6, -2, n -> x.micro(0, n, 3));
        b.inside("micro(0, ?, 2)", -6, 6, n -> x.micro(0, n, 2));
        b.inside("micro(0, ?, 3)", -6, 6, n -> x.micro(0, n, 3));
    }

    private void microByOutside() {
        b.sentence("Promise 18", "or by is not 2 or 3");
        SpellPitch x = Scores.line(60);
        b.outside("micro(0, 0, ?)", 2, 3, -2, by -> x.micro(0, 0, by));
        b.outside("micro(0, 6, ?)", 2, 3, -2, by -> x.micro(0, 6, by));
        b.is("by -2", x.micro(0, 0, -2), -2);
        b.is("by -3", x.micro(0, 0, -3), -2);
        b.inside("micro(0, 0, ?)", 2, 3, by -> x.micro(0, 0, by));
    }

    // ---- promise 19

    private void left() {
        b.sentence("Promise 19", "What is left of a number by n, rounded down: it has the sign of n (or is 0).");
        SpellPitch x = new SpellPitch();
        int[] edges = {MIN, MIN + 1, -1000, -13, -12, -7, -2, -1, 0, 1, 2, 7, 12, 13, 1000, MAX - 1, MAX};
        for (int number : edges) {
            for (int n : edges) {
                if (n != 0) {
                    long left = (long) number % n;
                    long due = left != 0 && left < 0 != n < 0 ? left + n : left;
                    b.is("step(" + number + ", " + n + ")", x.step(number, n), due);
                }
            }
        }
        b.is("step(MIN, -1)", x.step(MIN, -1), 0);
        b.is("step(-1, 12)", x.step(-1, 12), 11);
        b.is("step(1, -12)", x.step(1, -12), -11);
        b.is("step(MAX, MIN)", x.step(MAX, MIN), -1);
        b.is("step(MIN, MAX)", x.step(MIN, MAX), MAX - 1);
    }

    private void byZero() {
        b.sentence("Promise 19", "ArithmeticException for n = 0.");
        SpellPitch x = Scores.line(60);
        for (int number : new int[] {MIN, -1, 0, 1, MAX}) {
            String thrown = "nothing";
            try {
                x.step(number, 0);
            } catch (RuntimeException e) {
                thrown = e.getClass().getSimpleName();
            }
            b.is("step(" + number + ", 0) throws " + thrown, thrown.equals("ArithmeticException") ? 1 : 0, 1);
        }
        b.is("the SOUND is still there", x.name(0, 0), 15);
        b.is("step(0, 1)", x.step(0, 1), 0);
    }

    // ---- promise 20

    private void howTwoSound() {
        b.sentence("Promise 20", "How two NAMES SOUND: 2 they are the same, 1 as the same PITCHES, 0 not.");
        for (int name = 0; name < 35; name++) {
            SpellPitch x = new SpellPitch();
            for (int other = 0; other < 35; other++) {
                boolean alike = Scores.pitchOf(name) == Scores.pitchOf(other);
                b.is("equal(" + name + ", " + other + ")", x.equal(name, other), name == other ? 2 : alike ? 1 : 0);
            }
        }
    }

    private void noName() {
        b.sentence("Promise 20", "-2 one is no NAME");
        SpellPitch x = new SpellPitch();
        for (int name : new int[] {0, 15, 34}) {
            b.outside("equal(?, " + name + ")", 0, 34, -2, other -> x.equal(other, name));
            b.outside("equal(" + name + ", ?)", 0, 34, -2, other -> x.equal(name, other));
        }
        b.outside("equal(?, ?)", 0, 34, -2, other -> x.equal(other, other));
        b.is("35 and 23, 12 apart", x.equal(35, 23), -2);
        b.is("11 and -1, 12 apart", x.equal(11, -1), -2);
        b.inside("equal(?, 0)", 0, 34, name -> x.equal(name, 0));
    }

    // ---- promise 21

    private void signsInAKey() {
        b.sentence("Promise 21", "SIGNS, and 2, of a LETTER in a KEY.");
        SpellPitch x = new SpellPitch();
        int[] sharpened = {3, 0, 4, 1, 5, 2, 6};
        for (int at = 0; at < 7; at++) {
            for (int key = 0; key < 15; key++) {
                int due = key > 7 + at ? 3 : key > at ? 2 : 1;
                b.is("scale(" + key + ", " + sharpened[at] + ")", x.scale(key, sharpened[at]), due);
            }
        }
    }

    private void noneSuch() {
        b.sentence("Promise 21", "-2 one is none");
        SpellPitch x = new SpellPitch();
        for (int letter = 0; letter < 7; letter++) {
            int asked = letter;
            b.outside("scale(?, " + letter + ")", 0, 14, -2, key -> x.scale(key, asked));
            b.inside("scale(?, " + letter + ")", 0, 14, key -> x.scale(key, asked));
        }
        for (int key = 0; key < 15; key++) {
            int asked = key;
            b.outside("scale(" + key + ", ?)", 0, 6, -2, letter -> x.scale(asked, letter));
        }
        b.is("scale(15, 7)", x.scale(15, 7), -2);
    }
}
