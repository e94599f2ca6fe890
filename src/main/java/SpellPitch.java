/**
 * Names for sounds: which of the names of its pitch each sound has, and in which keys, by least
 * cost along the line of fifths. The numbered promises of the document say what each call answers.
 */
public final class SpellPitch {
    private static final int NO_SUCH = -1;
    private static final int OUTSIDE = -2;
    private static final int NOT_NOW = -3;
    private static final int NO_ROOM = -4;

    private static final int NAMES = 35;
    private static final int PITCHES = 128;
    private static final int KEYS = 15;
    private static final int LETTERS = 7;
    private static final int HALF_STEPS = 12;
    private static final int MOST_SOUNDS = 18;
    private static final int MOST_TOGETHER = 3;
    private static final int OPTIONS = 3;
    private static final int MOST_WEIGHT = 20;
    private static final int UNTOLD_KEY = KEYS;
    private static final int UNTOLD_NAME = NAMES;

    private static final int NAME_OF_C = 15;
    private static final int NAME_OF_F = 14;
    private static final int LOWEST_OF_KEY_0 = 7;
    private static final int TURN_APART = 12;
    private static final int FAR_ALONG = 19;
    private static final int SIXTHS = 6;

    private final Score score;
    private final Weights weights;
    private final Search search;
    // The search is dear, so it is made anew only when something has changed since the last one.
    private boolean searched;

    public SpellPitch() {
        search = new Search();
        score = search.score;
        weights = search.weights;
        searched = false;
    }

    public int pitch(int number, boolean with) {
        if (number < 0 || number >= PITCHES) {
            return OUTSIDE;
        }
        if (with && !score.canJoin()) {
            return NOT_NOW;
        }
        if (score.sounds >= MOST_SOUNDS) {
            return NO_ROOM;
        }
        searched = false;
        return score.put(number, with);
    }

    public int key(int sound, int key) {
        if (!score.has(sound)) {
            return NO_SUCH;
        }
        if (key < 0 || key > UNTOLD_KEY) {
            return OUTSIDE;
        }
        int moment = score.momentOf[sound];
        int before = score.toldKeys[moment];
        score.toldKeys[moment] = key;
        searched = searched && before == key;
        return before;
    }

    public int fix(int sound, int name) {
        if (!score.has(sound)) {
            return NO_SUCH;
        }
        if (name != UNTOLD_NAME && !(isName(name) && soundsAs(name, score.pitches[sound]))) {
            return OUTSIDE;
        }
        int before = score.toldNames[sound];
        score.toldNames[sound] = name;
        searched = searched && before == name;
        return before;
    }

    public int weights(int out, int twice, int wide, int step, int change) {
        boolean allFit = isWeight(out) && isWeight(twice) && isWeight(wide)
            && isWeight(step) && isWeight(change);
        if (!allFit) {
            return OUTSIDE;
        }
        weights.out = out;
        weights.twice = twice;
        weights.wide = wide;
        weights.step = step;
        weights.change = change;
        searched = false;
        return 1;
    }

    public int clear() {
        int before = score.sounds;
        score.empty();
        searched = false;
        return before;
    }

    // ---- what is meant

    public int sum() {
        return meant().cost;
    }

    public int signs() {
        return meant().signCount;
    }

    public int ties() {
        return meant().choices;
    }

    public int name(int sound, int what) {
        if (!score.has(sound)) {
            return NO_SUCH;
        }
        if (what < 0 || what > 3) {
            return OUTSIDE;
        }
        int name = meant().names[sound];
        switch (what) {
            case 0:
                return name;
            case 1:
                return letterOf(name);
            case 2:
                return signsOf(name) + 2;
            default:
                return octaveOf(name, score.pitches[sound]);
        }
    }

    public int keyOf(int sound) {
        if (!score.has(sound)) {
            return NO_SUCH;
        }
        return meant().keys[score.momentOf[sound]];
    }

    public int turned() {
        int[] keys = meant().keys;
        int turns = 0;
        for (int moment = 1; moment < score.moments; moment++) {
            if (isTurn(keys[moment - 1], keys[moment])) {
                turns++;
            }
        }
        return turns;
    }

    public int turn(int i) {
        if (i < 0) {
            return NO_SUCH;
        }
        int[] keys = meant().keys;
        int turns = 0;
        for (int moment = 1; moment < score.moments; moment++) {
            if (isTurn(keys[moment - 1], keys[moment])) {
                if (turns == i) {
                    return moment;
                }
                turns++;
            }
        }
        return NO_SUCH;
    }

    // ---- intervals

    public int interval(int from, int to, int what) {
        if (!score.has(from) || !score.has(to)) {
            return NO_SUCH;
        }
        if (what < 0 || what > 1) {
            return OUTSIDE;
        }
        int[] names = meant().names;
        int along = names[to] - names[from];
        if (along < -FAR_ALONG || along > FAR_ALONG) {
            return NOT_NOW;
        }
        if (what == 0) {
            return along + FAR_ALONG;
        }
        int places = placeOf(names[to], score.pitches[to]) - placeOf(names[from], score.pitches[from]);
        return Math.floorDiv(places - stepsOf(along), LETTERS) + 12;
    }

    public int quality(int interval, int what) {
        if (!isInterval(interval) || what < 0 || what > 2) {
            return OUTSIDE;
        }
        int along = interval - FAR_ALONG;
        switch (what) {
            case 0:
                return stepsOf(along);
            case 1:
                return halvesOf(along) + 2;
            default:
                return sortOf(along);
        }
    }

    public int add(int interval, int other) {
        if (!isInterval(interval) || !isInterval(other)) {
            return OUTSIDE;
        }
        int both = interval + other - FAR_ALONG;
        return isInterval(both) ? both : NOT_NOW;
    }

    public int transpose(int sound, int interval, int what) {
        if (!score.has(sound)) {
            return NO_SUCH;
        }
        if (!isInterval(interval) || what < 0 || what > 1) {
            return OUTSIDE;
        }
        int along = interval - FAR_ALONG;
        int name = meant().names[sound] + along;
        int pitch = score.pitches[sound] + halvesOf(along);
        if (!isName(name) || pitch < 0 || pitch >= PITCHES) {
            return NOT_NOW;
        }
        return what == 0 ? name : pitch;
    }

    // ---- shades

    public int micro(int sound, int n, int by) {
        if (!score.has(sound)) {
            return NO_SUCH;
        }
        if (n < -SIXTHS || n > SIXTHS || (by != 2 && by != 3)) {
            return OUTSIDE;
        }
        int sixths = SIXTHS * signsOf(meant().names[sound]) + n;
        // Rounding half a part down is rounding (sixths / by - 1/2) up, which is minus the floor of minus it.
        return 9 - Math.floorDiv(by - 2 * sixths, 2 * by);
    }

    public int step(int number, int n) throws ArithmeticException {
        if (n == 0) {
            throw new ArithmeticException("n is 0");
        }
        return Math.floorMod(number, n);
    }

    public int equal(int name, int other) {
        if (!isName(name) || !isName(other)) {
            return OUTSIDE;
        }
        if (name == other) {
            return 2;
        }
        return (name - other) % HALF_STEPS == 0 ? 1 : 0;
    }

    public int scale(int key, int letter) {
        if (key < 0 || key >= KEYS || letter < 0 || letter >= LETTERS) {
            return OUTSIDE;
        }
        int lowest = key + LOWEST_OF_KEY_0;
        // Two fifths up are one letter up, so 2 undoes the 4 of a name's letter.
        int name = lowest + Math.floorMod(2 * (letter - letterOf(lowest)), LETTERS);
        return signsOf(name) + 2;
    }

    private Search meant() {
        if (!searched) {
            search.run();
            searched = true;
        }
        return search;
    }

    private static boolean isName(int name) {
        return name >= 0 && name < NAMES;
    }

    private static boolean isInterval(int interval) {
        return interval >= 0 && interval <= 2 * FAR_ALONG;
    }

    private static boolean isWeight(int weight) {
        return weight >= 0 && weight <= MOST_WEIGHT;
    }

    private static boolean isTurn(int key, int next) {
        return Math.abs(next - key) == TURN_APART;
    }

    private static boolean soundsAs(int name, int pitch) {
        return (7 * (name - NAME_OF_C) - pitch) % HALF_STEPS == 0;
    }

    private static int letterOf(int name) {
        return Math.floorMod(4 * (name - NAME_OF_C), LETTERS);
    }

    private static int signsOf(int name) {
        return Math.floorDiv(name - NAME_OF_F, 7);
    }

    private static int octaveOf(int name, int pitch) {
        return Math.floorDiv(pitch - signsOf(name) + HALF_STEPS, HALF_STEPS);
    }

    private static int placeOf(int name, int pitch) {
        return LETTERS * octaveOf(name, pitch) + letterOf(name);
    }

    private static int stepsOf(int along) {
        return Math.floorMod(4 * along, LETTERS);
    }

    private static int halvesOf(int along) {
        return 7 * along - HALF_STEPS * Math.floorDiv(4 * along, LETTERS);
    }

    private static int sortOf(int along) {
        int far = Math.abs(along);
        if (far <= 1) {
            return 0;
        }
        int upward = far <= 5 ? 1 : far <= 12 ? 3 : 5;
        return along > 0 ? upward : upward + 1;
    }

    /** What a CHOICE pays for; a new one has the weights of a new object. */
    private static final class Weights {
        int out = 2;
        int twice = 4;
        int wide = 2;
        int step = 3;
        int change = 5;
    }

    /**
     * The SOUNDS in their MOMENTS, and what is told of them. Option 0, 1, 2 of a SOUND is the
     * lowest NAME that SOUNDS as its PITCH, and those 12 and 24 further along; the last may be no
     * NAME any more, and is not allowed then.
     */
    private static final class Score {
        final int[] pitches = new int[MOST_SOUNDS];
        final int[] toldNames = new int[MOST_SOUNDS];
        final int[] momentOf = new int[MOST_SOUNDS];
        final int[] firstSound = new int[MOST_SOUNDS];
        final int[] soundsAt = new int[MOST_SOUNDS];
        final int[] toldKeys = new int[MOST_SOUNDS];
        final int[] optionNames = new int[MOST_SOUNDS * OPTIONS];
        final int[] optionPlaces = new int[MOST_SOUNDS * OPTIONS];
        int sounds = 0;
        int moments = 0;

        boolean has(int sound) {
            return sound >= 0 && sound < sounds;
        }

        boolean canJoin() {
            return moments > 0 && soundsAt[moments - 1] < MOST_TOGETHER;
        }

        int put(int pitch, boolean joins) {
            int sound = sounds;
            if (!joins) {
                firstSound[moments] = sound;
                soundsAt[moments] = 0;
                toldKeys[moments] = UNTOLD_KEY;
                moments++;
            }
            pitches[sound] = pitch;
            toldNames[sound] = UNTOLD_NAME;
            momentOf[sound] = moments - 1;
            soundsAt[moments - 1]++;
            sounds++;
            listOptions(sound);
            return sound;
        }

        private void listOptions(int sound) {
            int lowest = Math.floorMod(7 * pitches[sound] + NAME_OF_C, HALF_STEPS);
            for (int option = 0; option < OPTIONS; option++) {
                int name = lowest + HALF_STEPS * option;
                optionNames[sound * OPTIONS + option] = name;
                optionPlaces[sound * OPTIONS + option] = placeOf(name, pitches[sound]);
            }
        }

        void empty() {
            sounds = 0;
            moments = 0;
        }

        boolean allowsName(int sound, int name) {
            return isName(name) && (toldNames[sound] == UNTOLD_NAME || toldNames[sound] == name);
        }

        boolean allowsKey(int moment, int key) {
            return toldKeys[moment] == UNTOLD_KEY || toldKeys[moment] == key;
        }
    }

    /**
     * Finds what is MEANT, from the last MOMENT back to the first, so that the first of several
     * can then be read off forward.
     *
     * A state of a MOMENT is its KEY and a pick, which has a digit of base 3 for each of its
     * SOUNDS, the first one's highest: which option of the SOUND is taken. So states in rising
     * order are in the order in which CHOICES are compared.
     *
     * A value is COST times UNIT and signs, so that the lesser value has the lesser COST, or the
     * same and fewer signs.
     */
    private static final class Search {
        private static final int[] PICKS = {1, 3, 9, 27};
        private static final int STATES_AT_ONE = 405;
        // Six MOMENTS of three SOUNDS have more states than 18 SOUNDS in any other MOMENTS.
        private static final int STATES_IN_ALL = 2430;
        // All signs together are 36 at most.
        private static final int UNIT = 64;
        // Above every value (COSTS stay below 30000), and its sums stay inside an int.
        private static final int NONE = 1 << 28;
        private static final int MOST_CHOICES = 1000000;

        final int[] names = new int[MOST_SOUNDS];
        final int[] keys = new int[MOST_SOUNDS];
        int cost = 0;
        int signCount = 0;
        int choices = 1;

        final Score score = new Score();
        final Weights weights = new Weights();
        private final int[] values = new int[STATES_IN_ALL];
        private final int[] firstState = new int[MOST_SOUNDS];
        private final int[] ways = new int[STATES_AT_ONE];
        private final int[] ahead = new int[STATES_AT_ONE];
        private final int[] waysAhead = new int[STATES_AT_ONE];
        private final int[] line = new int[KEYS];
        private final int[] lineWays = new int[KEYS];
        private final int[] keyLinks = new int[KEYS * KEYS];
        private final int[] stepLinks = new int[MOST_TOGETHER * OPTIONS * OPTIONS];
        private final int[] tried = new int[MOST_TOGETHER];
        private int picksAhead = 1;

        void run() {
            cost = 0;
            signCount = 0;
            choices = 1;
            if (score.moments == 0) {
                return;
            }
            layOutStates();
            linkKeys();
            lookAtTheEnd();
            for (int moment = score.moments - 1; moment >= 0; moment--) {
                weigh(moment);
                if (moment > 0) {
                    lookAheadFrom(moment - 1);
                }
            }
            countChoices();
            readOff();
        }

        private int picksAt(int moment) {
            return PICKS[score.soundsAt[moment]];
        }

        private void layOutStates() {
            int used = 0;
            for (int moment = 0; moment < score.moments; moment++) {
                firstState[moment] = used;
                used += KEYS * picksAt(moment);
            }
        }

        private void linkKeys() {
            for (int key = 0; key < KEYS; key++) {
                for (int next = 0; next < KEYS; next++) {
                    int times = isTurn(key, next) ? 1 : Math.abs(next - key);
                    keyLinks[key * KEYS + next] = UNIT * weights.change * times;
                }
            }
        }

        private void linkSteps(int moment) {
            int first = score.firstSound[moment];
            int nextFirst = score.firstSound[moment + 1];
            int both = Math.min(score.soundsAt[moment], score.soundsAt[moment + 1]);
            for (int place = 0; place < MOST_TOGETHER; place++) {
                for (int pair = 0; pair < OPTIONS * OPTIONS; pair++) {
                    boolean pays = place < both
                        && isBadStep(first + place, pair / OPTIONS, nextFirst + place, pair % OPTIONS);
                    stepLinks[place * OPTIONS * OPTIONS + pair] = pays ? UNIT * weights.step : 0;
                }
            }
        }

        private boolean isBadStep(int sound, int option, int next, int nextOption) {
            int up = score.pitches[next] - score.pitches[sound];
            if (up == 0) {
                return option != nextOption;
            }
            if (up < -2 || up > 2) {
                return false;
            }
            int place = score.optionPlaces[sound * OPTIONS + option];
            int nextPlace = score.optionPlaces[next * OPTIONS + nextOption];
            return nextPlace - place != (up > 0 ? 1 : -1);
        }

        // Behind the last MOMENT stands one without SOUNDS that costs nothing.
        private void lookAtTheEnd() {
            picksAhead = 1;
            for (int key = 0; key < KEYS; key++) {
                ahead[key] = 0;
                waysAhead[key] = 1;
            }
        }

        private void weigh(int moment) {
            int picks = picksAt(moment);
            for (int pick = 0; pick < picks; pick++) {
                boolean namesFit = tryNames(moment, pick);
                int own = namesFit ? valueOfTried(moment) : NONE;
                // Places that only one of the two MOMENTS has fall away, or are taken as digit 0.
                int pickAhead = pick * picksAhead / picks;
                for (int key = 0; key < KEYS; key++) {
                    boolean fits = namesFit && score.allowsKey(moment, key);
                    int state = key * picks + pick;
                    int from = key * picksAhead + pickAhead;
                    values[firstState[moment] + state] =
                        fits ? own + valueOutside(moment, key) + ahead[from] : NONE;
                    ways[state] = fits ? waysAhead[from] : 0;
                }
            }
        }

        private boolean tryNames(int moment, int pick) {
            int sounds = score.soundsAt[moment];
            int first = score.firstSound[moment];
            boolean fit = true;
            for (int place = 0; place < sounds; place++) {
                tried[place] = score.optionNames[(first + place) * OPTIONS + digit(pick, sounds, place)];
                fit = fit && score.allowsName(first + place, tried[place]);
            }
            return fit;
        }

        private static int digit(int state, int sounds, int place) {
            return state / PICKS[sounds - 1 - place] % OPTIONS;
        }

        private int valueOfTried(int moment) {
            int sounds = score.soundsAt[moment];
            int paid = 0;
            int signed = 0;
            for (int place = 0; place < sounds; place++) {
                int size = Math.abs(signsOf(tried[place]));
                signed += size;
                paid += size == 2 ? weights.twice : 0;
                for (int other = 0; other < place; other++) {
                    int apart = Math.abs(tried[place] - tried[other]);
                    paid += weights.wide * Math.max(0, apart - 6);
                }
            }
            return UNIT * paid + signed;
        }

        private int valueOutside(int moment, int key) {
            int lowest = key + LOWEST_OF_KEY_0;
            int highest = lowest + LETTERS - 1;
            int outside = 0;
            for (int place = 0; place < score.soundsAt[moment]; place++) {
                outside += Math.max(0, Math.max(lowest - tried[place], tried[place] - highest));
            }
            return UNIT * weights.out * outside;
        }

        // What two MOMENTS pay for each other is a sum of one part for the KEYS and one for each
        // place, so the best state ahead can be sought by one part after the other.
        private void lookAheadFrom(int moment) {
            int sounds = score.soundsAt[moment + 1];
            picksAhead = PICKS[sounds];
            int states = KEYS * picksAhead;
            System.arraycopy(values, firstState[moment + 1], ahead, 0, states);
            System.arraycopy(ways, 0, waysAhead, 0, states);
            foldLines(1, picksAhead, KEYS, keyLinks, 0);
            linkSteps(moment);
            for (int place = 0; place < sounds; place++) {
                int blocks = KEYS * PICKS[place];
                foldLines(blocks, PICKS[sounds - 1 - place], OPTIONS, stepLinks, place * OPTIONS * OPTIONS);
            }
        }

        // A line is the states ahead that differ in one part alone: they lie stride apart, so a
        // block of stride times size states has stride lines.
        private void foldLines(int blocks, int stride, int size, int[] links, int firstLink) {
            for (int block = 0; block < blocks; block++) {
                for (int offset = 0; offset < stride; offset++) {
                    int first = block * stride * size + offset;
                    for (int i = 0; i < size; i++) {
                        line[i] = ahead[first + i * stride];
                        lineWays[i] = waysAhead[first + i * stride];
                    }
                    for (int i = 0; i < size; i++) {
                        foldOne(first + i * stride, size, links, firstLink + i * size);
                    }
                }
            }
        }

        private void foldOne(int state, int size, int[] links, int firstLink) {
            int best = NONE;
            int bestWays = 0;
            for (int i = 0; i < size; i++) {
                if (line[i] < NONE) {
                    int value = line[i] + links[firstLink + i];
                    // Ties are of the COST alone, whatever the signs.
                    if (value / UNIT < best / UNIT) {
                        bestWays = lineWays[i];
                    } else if (value / UNIT == best / UNIT) {
                        bestWays = Math.min(MOST_CHOICES, bestWays + lineWays[i]);
                    }
                    best = Math.min(best, value);
                }
            }
            ahead[state] = best;
            waysAhead[state] = bestWays;
        }

        private void countChoices() {
            int states = KEYS * picksAt(0);
            int best = NONE;
            for (int state = 0; state < states; state++) {
                best = Math.min(best, values[state]);
            }
            cost = best / UNIT;
            signCount = best % UNIT;
            choices = 0;
            for (int state = 0; state < states; state++) {
                if (values[state] / UNIT == cost) {
                    choices = Math.min(MOST_CHOICES, choices + ways[state]);
                }
            }
        }

        private void readOff() {
            int state = 0;
            for (int moment = 0; moment < score.moments; moment++) {
                if (moment > 0) {
                    linkSteps(moment - 1);
                }
                state = firstOfBest(moment, state);
                keep(moment, state);
            }
        }

        private int firstOfBest(int moment, int before) {
            int states = KEYS * picksAt(moment);
            int best = NONE;
            int bestState = 0;
            for (int state = 0; state < states; state++) {
                int value = values[firstState[moment] + state];
                if (value < NONE && moment > 0) {
                    value += valueBetween(moment, before, state);
                }
                if (value < best) {
                    best = value;
                    bestState = state;
                }
            }
            return bestState;
        }

        private int valueBetween(int moment, int before, int state) {
            int soundsBefore = score.soundsAt[moment - 1];
            int sounds = score.soundsAt[moment];
            int keyBefore = before / PICKS[soundsBefore];
            int key = state / PICKS[sounds];
            int value = keyLinks[keyBefore * KEYS + key];
            for (int place = 0; place < Math.min(soundsBefore, sounds); place++) {
                int pair = digit(before, soundsBefore, place) * OPTIONS + digit(state, sounds, place);
                value += stepLinks[place * OPTIONS * OPTIONS + pair];
            }
            return value;
        }

        private void keep(int moment, int state) {
            int sounds = score.soundsAt[moment];
            int first = score.firstSound[moment];
            keys[moment] = state / PICKS[sounds];
            for (int place = 0; place < sounds; place++) {
                int option = digit(state, sounds, place);
                names[first + place] = score.optionNames[(first + place) * OPTIONS + option];
            }
        }
    }
}
