import java.util.Random;

/** Runs of mixed calls, right and wrong ones, against the plain reading of the document. */
public final class ReferenceTest {
    private static final int[] ODD = {
        Integer.MIN_VALUE, Integer.MIN_VALUE + 1, -1000, -20, -2, -1, 0, 1, 15, 16, 19, 34, 35, 36, 38, 39,
        127, 128, 1 << 20, 1 << 30, Integer.MAX_VALUE - 1, Integer.MAX_VALUE};

    private final Due due = new Due("ReferenceTest");
    private final Random random = new Random(20261115);
    private SpellPitch x;
    private Plain plain;
    private StringBuilder told;
    private int made;

    public static void main(String[] args) {
        ReferenceTest test = new ReferenceTest();
        for (int run = 0; run < 1200; run++) {
            test.run(60, 3);
        }
        for (int run = 0; run < 120; run++) {
            test.run(60, 9);
        }
        for (int run = 0; run < 30; run++) {
            test.fullScore(1 + run % 4);
        }
        test.due.end();
    }

    private void run(int calls, int most) {
        begin();
        int span = 1 + below(14);
        int lowest = below(128 - span);
        for (int i = 0; i < calls && due.wrong() == 0; i++) {
            int kind = below(6);
            if (kind == 0 && made < most) {
                put(below(20) == 0 ? any(127) : lowest + below(span), below(5) < 2);
            } else if (kind <= 2) {
                tell();
            } else {
                ask(below(15));
            }
        }
        askAll();
    }

    /** As many SOUNDS as there is room for, in MOMENTS of up to so many (4: of one, but for one chord). */
    private void fullScore(int together) {
        begin();
        int lowest = below(110);
        for (int i = 0; i < 21; i++) {
            boolean with = together == 4 ? i == 7 || i == 8 : i % together != 0;
            put(lowest + below(18), with);
        }
        askAll();
        for (int i = 0; i < 3 && due.wrong() == 0; i++) {
            tell();
            tell();
            askAll();
        }
    }

    private void begin() {
        x = new SpellPitch();
        plain = new Plain();
        told = new StringBuilder();
        made = 0;
    }

    private int below(int bound) {
        return random.nextInt(bound);
    }

    /** Mostly 0 .. most, sometimes a number at or beyond an edge. */
    private int any(int most) {
        int kind = below(40);
        if (kind == 0) {
            return ODD[below(ODD.length)];
        }
        return kind == 1 ? -1 : kind == 2 ? most + 1 : below(most + 1);
    }

    private int sound() {
        return any(Math.max(0, made - 1));
    }

    private void is(String call, int got, int want) {
        told.append("\n  ").append(call).append(": ").append(want);
        due.is("in the run" + told + "\nthe last call", got, want);
    }

    private void put(int number, boolean with) {
        int want = plain.pitch(number, with);
        is("pitch(" + number + ", " + with + ")", x.pitch(number, with), want);
        made = want >= 0 ? want + 1 : made;
    }

    private void tell() {
        int sound = sound();
        int kind = below(24);
        if (kind < 8) {
            int key = below(3) == 0 ? 15 : any(15);
            is("key(" + sound + ", " + key + ")", x.key(sound, key), plain.key(sound, key));
        } else if (kind < 20) {
            int name = below(3) == 0 ? 35 : any(35);
            is("fix(" + sound + ", " + name + ")", x.fix(sound, name), plain.fix(sound, name));
        } else if (kind < 23) {
            int most = below(2) == 0 ? 20 : 3;
            int[] w = {any(most), any(most), any(most), any(most), any(most)};
            is("weights(" + w[0] + ", " + w[1] + ", " + w[2] + ", " + w[3] + ", " + w[4] + ")",
                x.weights(w[0], w[1], w[2], w[3], w[4]), plain.weights(w[0], w[1], w[2], w[3], w[4]));
        } else {
            is("clear()", x.clear(), plain.clear());
            made = 0;
        }
    }

    private void ask(int kind) {
        int a = sound();
        int b = sound();
        int v = any(38);
        int w = any(38);
        int what = any(3);
        switch (kind) {
            case 0 -> is("sum()", x.sum(), plain.sum());
            case 1 -> is("signs()", x.signs(), plain.signs());
            case 2 -> is("ties()", x.ties(), plain.ties());
            case 3 -> is("name(" + a + ", " + what + ")", x.name(a, what), plain.name(a, what));
            case 4 -> is("keyOf(" + a + ")", x.keyOf(a), plain.keyOf(a));
            case 5 -> is("turned()", x.turned(), plain.turned());
            case 6 -> is("turn(" + what + ")", x.turn(what), plain.turn(what));
            case 7 -> is("interval(" + a + ", " + b + ", " + what + ")",
                x.interval(a, b, what), plain.interval(a, b, what));
            case 8 -> is("quality(" + v + ", " + what + ")", x.quality(v, what), plain.quality(v, what));
            case 9 -> is("add(" + v + ", " + w + ")", x.add(v, w), plain.add(v, w));
            case 10 -> is("transpose(" + a + ", " + v + ", " + what + ")",
                x.transpose(a, v, what), plain.transpose(a, v, what));
            case 11 -> askMicro(a, any(12) - 6, any(4));
            case 12 -> is("equal(" + v + ", " + w + ")", x.equal(v, w), Plain.equal(v, w));
            case 13 -> askScale(any(14), any(6));
            default -> askStep(any(200) - 100, below(2) == 0 ? any(30) : -any(30));
        }
    }

    private void askMicro(int sound, int n, int by) {
        is("micro(" + sound + ", " + n + ", " + by + ")", x.micro(sound, n, by), plain.micro(sound, n, by));
    }

    private void askScale(int key, int letter) {
        is("scale(" + key + ", " + letter + ")", x.scale(key, letter), Plain.scale(key, letter));
    }

    private void askStep(int number, int n) {
        if (n != 0) {
            is("step(" + number + ", " + n + ")", x.step(number, n), Plain.step(number, n));
        }
    }

    /** All that shows what is MEANT. */
    private void askAll() {
        for (int kind = 0; kind < 3; kind++) {
            ask(kind);
        }
        for (int sound = 0; sound < made; sound++) {
            is("name(" + sound + ", 0)", x.name(sound, 0), plain.name(sound, 0));
            is("keyOf(" + sound + ")", x.keyOf(sound), plain.keyOf(sound));
        }
        is("turned()", x.turned(), plain.turned());
        for (int i = 0; i < 18; i++) {
            is("turn(" + i + ")", x.turn(i), plain.turn(i));
        }
    }
}
