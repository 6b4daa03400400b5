import java.util.Arrays;

/** Stair rods that tick when they are trodden, and what the landlady hears of it through her cups. */
public final class StairRods {
    public static final int NONE = -1;

    private static final int OTHERS = -2;

    private static final int TOP = 12;
    private static final int PLACES = 13;
    private static final int LONGEST_TREAD = 3;
    private static final int LODGERS = 6;
    private static final int MOST_WEIGHT = 9;
    private static final int MOST_TROD = 9999;
    private static final int LAST_HOUR = 9999;
    private static final int MOST_HOURS = 60;
    private static final int FIRST_X = 293;
    private static final int ALL_STAIRS = 8190;
    private static final int LINES = 30;
    private static final int LINE = 3;
    private static final int STEPS = 30;
    private static final int LAST_SEED = 9999;
    private static final int MOST_NIGHTS = 40;

    private static final int TEXTS = 4;
    private static final int TEXT_BYTES = 300;
    private static final int FED = 20;
    private static final int CLAUSES = 24;
    private static final int MOST_NUMBER = 9999;
    private static final int MOST_OPEN = 8;
    private static final int FARTHEST = 1000000;
    private static final int LOUDEST_TICK = 99;
    private static final int HEARS_UNTOLD = 8;

    private static final int MOODS = 3;
    private static final int SOUNDS = 6;
    private static final int MOOD_WEIGHT = 9;
    private static final int CODE_WORDS = 5;
    private static final int LAST_WORD = 22222;
    private static final int LAST_MESSAGE = 99999999;
    private static final int MESSAGE_DIGITS = 8;
    private static final int MESSAGES = 6;
    private static final int HEAVIEST = 99;
    private static final int SAYINGS = 8;
    private static final int SAYING = 3;

    // Kinds of TOKENS; most of them are instructions of a law's code as well.
    private static final int THE_END = 0;
    private static final int BAD = 1;
    private static final int NUMBER = 2;
    private static final int LESS_OR_EQUAL = 3;
    private static final int MORE_OR_EQUAL = 4;
    private static final int LESS = 10;
    private static final int MORE = 11;
    private static final int EQUAL = 12;
    private static final int UNLIKE = 13;
    private static final int PLUS = 14;
    private static final int MINUS = 15;
    private static final int TIMES = 16;
    private static final int OVER = 17;
    private static final int OPEN = 18;
    private static final int CLOSE = 19;
    private static final int STOP = 20;
    private static final String SIGNS = "<>=#+-*/();";

    private static final int HOUR = 30;
    private static final int LATE = 31;
    private static final int STAIR = 32;
    private static final int WEIGHT = 33;
    private static final int FLOOR = 34;
    private static final int WHO = 35;
    private static final int TROD = 36;
    private static final int WAY = 37;
    private static final int TICKS = 38;
    private static final int HEARS = 39;
    private static final int LODGER = 40;
    private static final int UP = 41;
    private static final int DOWN = 42;
    private static final int HANG = 43;
    private static final int UNHANG = 44;
    private static final int NEAR = 45;
    private static final int CUPS = 46;
    private static final int IF = 47;
    private static final int THEN = 48;
    private static final int ELSE = 49;
    private static final int END = 50;
    private static final int OR = 51;
    private static final int AND = 52;
    private static final int NOT = 53;
    private static final int OF = 54;
    private static final int BY = 55;
    // In the order of the numbers above, from HOUR on, each with a blank behind it.
    private static final String WORDS =
        "hour late stair weight floor who trod way ticks hears lodger up down hang unhang near cups if then else end or and not of by ";
    private static final int NAMES = 8;

    // Instructions that are no TOKENS.
    private static final int NAME = 60;
    private static final int NEGATE = 61;
    private static final int JUMP = 62;
    private static final int UNLESS = 63;

    private static final int STACK = 80;

    // CODE WORDS and messages of digits 1, 2 are kept as KEYS: a 1, then 0 for each 1 and 1 for each 2.
    private static final int NO_KEY = 0;
    private static final int EMPTY_KEY = 1;
    private static final int WORD_KEYS = 64;
    private static final int MESSAGE_KEYS = 512;
    private static final int FAR = 1000000;

    private final State now;
    private final State image;
    // TEXTS that the image has are never told anew, so that their count is all that an image needs of them
    private final Text[] library;
    private final int[] tape;
    private int taped;
    private final Reader reader;
    private final Law law;
    private final Moods rows;
    private final Codes codes;
    private final int[] treads;
    private final long[] counts;
    private final int[] piles;

    public StairRods() {
        now = new State();
        image = new State();
        library = new Text[TEXTS];
        for (int i = 0; i < TEXTS; i++) {
            library[i] = new Text();
        }
        tape = new int[TEXT_BYTES];
        taped = 0;
        reader = new Reader();
        law = new Law();
        rows = new Moods();
        codes = new Codes();
        treads = new int[PLACES];
        counts = new long[PLACES];
        piles = new int[MESSAGES];
    }

    // ---- LODGERS and TEXTS

    public int lodger(int weight, int floor) {
        if (!within(weight, 1, MOST_WEIGHT) || !isStair(floor)) {
            return NONE;
        }
        return moveIn(weight, floor);
    }

    public int feed(int a, int b, int c, int d, int e) {
        if (taped < 0 || taped + FED > TEXT_BYTES) {
            return NONE;
        }
        putFour(a);
        putFour(b);
        putFour(c);
        putFour(d);
        putFour(e);
        return taped;
    }

    public int end(int n) {
        if (!within(n, 0, taped)) {
            return NONE;
        }
        taped = n;
        return n;
    }

    public int text() {
        if (!within(now.texts, 0, TEXTS - 1)) {
            return NONE;
        }
        boolean whole = reader.read(tape, taped);
        taped = 0;
        Text place = library[now.texts];
        if (!whole || place == null) {
            return NONE;
        }
        place.copyText(reader.draft);
        now.texts++;
        return now.texts - 1;
    }

    public int fault(int what) {
        if (!reader.hasRead) {
            return NONE;
        }
        switch (what) {
            case 0:
                return reader.fault;
            case 1:
                return reader.place;
            default:
                return NONE;
        }
    }

    public boolean by(int text) {
        if (text != NONE && textOf(text) == null) {
            return false;
        }
        now.ruling = text;
        return true;
    }

    // ---- STEPS

    public int tread(int lodger, boolean up, int n) {
        return treadAsStep(lodger, up, n);
    }

    public boolean hang(int stair, boolean cup) {
        return hangAsStep(stair, cup);
    }

    public int hour(int n) {
        if (!within(n, 1, MOST_HOURS) || now.house.hour + n > LAST_HOUR) {
            return NONE;
        }
        int heard = 0;
        for (int i = 0; i < n; i++) {
            now.steps.keep(now.house);
            heard += passHour();
        }
        return heard;
    }

    public int played(int text) {
        Text script = textOf(text);
        if (script == null) {
            return OTHERS;
        }
        // all in one method, since calls go eight deep at most and an hour's law needs seven of them
        for (int i = 0; i < script.clauses && i < CLAUSES; i++) {
            int first = script.first[i];
            int second = script.second[i];
            boolean done = true;
            switch (script.kind[i]) {
                case LODGER:
                    done = moveIn(first, second) != NONE;
                    break;
                case UP:
                    done = treadAsStep(second, true, first) != NONE;
                    break;
                case DOWN:
                    done = treadAsStep(second, false, first) != NONE;
                    break;
                case HANG:
                    done = hangAsStep(first, true);
                    break;
                case UNHANG:
                    done = hangAsStep(first, false);
                    break;
                case HOUR:
                    done = now.house.hour + first <= LAST_HOUR;
                    for (int k = 0; k < first && now.house.hour < LAST_HOUR; k++) {
                        now.steps.keep(now.house);
                        passHour();
                    }
                    break;
                default:
                    break;
            }
            if (!done) {
                return i;
            }
        }
        return NONE;
    }

    public int nights(int seed, int n) {
        if (!within(seed, 0, LAST_SEED) || !within(n, 1, MOST_NIGHTS)) {
            return NONE;
        }
        House house = now.house;
        now.steps.keep(house);
        house.x = seed * 2 + FIRST_X;
        for (int i = 0; i < n; i++) {
            int x = house.x;
            int what = x % 6;
            int cup = 1 << 1 + x / 6 % TOP;
            house.x = afterX(x);
            if (what < 2) {
                int lodger = now.lodgers > 0 ? x % now.lodgers : NONE;
                int places = what == 0 ? 1 + x % 3 : -1 - x % 3;
                if (canGo(lodger, places)) {
                    go(lodger, places);
                }
            } else if (what == 2) {
                house.cups |= cup;
            } else if (what == 3) {
                house.cups &= ~cup;
            } else if (house.hour < LAST_HOUR) {
                passHour();
            }
        }
        return house.hour;
    }

    public int undo() {
        if (!now.steps.takeBack(now.house)) {
            return NONE;
        }
        return now.steps.count;
    }

    // ---- What is so now

    public int of(int lodger, int what) {
        if (!isLodger(lodger)) {
            return NONE;
        }
        switch (what) {
            case 0:
                return now.weight[lodger];
            case 1:
                return now.floor[lodger];
            case 2:
                return now.house.place[lodger];
            case 3:
                return now.house.trod[lodger];
            case 4:
                return now.print[lodger];
            default:
                return NONE;
        }
    }

    public int ticks(int lodger, int stair, boolean up) {
        if (!isLodger(lodger) || !isStair(stair)) {
            return NONE;
        }
        return ticksBy(textOf(now.ruling), lodger, stair, up);
    }

    public int hears(int stair) {
        if (!isStair(stair)) {
            return NONE;
        }
        return leastHeard(stair);
    }

    public int is(int what) {
        switch (what) {
            case 0:
                return now.house.hour;
            case 1:
                return now.house.x;
            case 2:
                return now.house.late;
            case 3:
                return now.house.cups;
            default:
                return OTHERS;
        }
    }

    public int book(int i, int what) {
        House house = now.house;
        if (i == NONE) {
            return house.lines;
        }
        if (!within(i, 0, house.lines - 1) || i >= LINES || !within(what, 0, LINE - 1)) {
            return OTHERS;
        }
        return house.book[i * LINE + what];
    }

    // ---- What comes, and ways

    public int foretold(int n, int lodger, int what) {
        if (!within(n, 1, MOST_HOURS) || !isLodger(lodger) || !within(what, 0, 1)) {
            return NONE;
        }
        int place = now.house.place[lodger];
        int trod = now.house.trod[lodger];
        int x = now.house.x;
        int hours = Math.min(n, LAST_HOUR - now.house.hour);
        for (int i = 0; i < hours; i++) {
            // one draw is LATE's, then each LODGER has one; no other LODGER changes what this one does
            x = afterX(x);
            for (int who = 0; who < tenants(); who++) {
                int goes = who == lodger ? goesBy(x % 4) : 0;
                if (goes != 0 && isPlace(place + goes)) {
                    place += goes;
                    trod = Math.min(trod + 1, MOST_TROD);
                }
                x = afterX(x);
            }
        }
        return what == 0 ? place : trod;
    }

    public int quiet(int lodger, int a, int b, int i) {
        if (!isLodger(lodger) || !isPlace(a) || !isPlace(b) || i < NONE) {
            return OTHERS;
        }
        int loudUp = heardStairs(lodger, true);
        int loudDown = heardStairs(lodger, false);
        countTreadsTo(b, loudUp, loudDown);
        int far = treads[a];
        if (far == NONE || i >= far) {
            return OTHERS;
        }
        int place = a;
        for (int k = 0; k <= i; k++) {
            place = nextQuiet(place, loudUp, loudDown);
        }
        return i == NONE ? far : place;
    }

    public long ways(int a, int b) {
        if (!isWayUp(a, b)) {
            return NONE;
        }
        return countWays(a, b, 0);
    }

    public long unheard(int lodger, int a, int b) {
        if (!isLodger(lodger) || !isWayUp(a, b)) {
            return NONE;
        }
        return countWays(a, b, heardStairs(lodger, true));
    }

    public long waysBy(int a, int b, int n) {
        if (!isWayUp(a, b) || !within(n, 0, TOP)) {
            return NONE;
        }
        Arrays.fill(counts, 0L);
        counts[a] = 1;
        for (int k = 0; k < n; k++) {
            // from above, so that no PLACE that is needed yet has this tread's count already
            for (int place = TOP; place >= 0; place--) {
                counts[place] = countFromBelow(place);
            }
        }
        return counts[b];
    }

    public int loudest(int lodger) {
        if (!isLodger(lodger)) {
            return NONE;
        }
        int most = 0;
        int found = NONE;
        for (int stair = 1; stair <= TOP; stair++) {
            int loud = Math.max(loudness(lodger, stair, true), loudness(lodger, stair, false));
            if (loud > most) {
                most = loud;
                found = stair;
            }
        }
        return found;
    }

    public int heardOn(int lodger, boolean up) {
        if (!isLodger(lodger)) {
            return NONE;
        }
        return heardStairs(lodger, up);
    }

    public int cupRow() {
        int most = 0;
        int row = 0;
        for (int stair = 1; stair <= TOP; stair++) {
            row = hasCup(stair) ? row + 1 : 0;
            most = Math.max(most, row);
        }
        return most;
    }

    // ---- MOODS and SOUNDS

    public boolean change(int mood, int to, int weight) {
        if (!isMood(mood) || !isMood(to) || !within(weight, 0, MOOD_WEIGHT)) {
            return false;
        }
        now.change[mood * MOODS + to] = weight;
        return true;
    }

    public boolean sound(int mood, int sound, int weight) {
        if (!isMood(mood) || !isMood(sound) || !within(weight, 0, MOOD_WEIGHT)) {
            return false;
        }
        now.sound[mood * MOODS + sound] = weight;
        return true;
    }

    public int listen(int sound) {
        if (sound == NONE) {
            now.sounds = 0;
            return 0;
        }
        if (!isMood(sound) || !within(now.sounds, 0, SOUNDS - 1)) {
            return OTHERS;
        }
        now.listened[now.sounds] = sound;
        now.sounds++;
        return now.sounds;
    }

    public long weighed() {
        rows.weighFromFront(now);
        return rows.all(now.sounds);
    }

    public long mood(int i, int mood, boolean low) {
        if (!within(i, 0, now.sounds - 1) || !isMood(mood)) {
            return NONE;
        }
        rows.weighFromFront(now);
        rows.weighFromBack(now, false);
        return part(rows.through(i, mood), rows.all(now.sounds), low);
    }

    public int moods(int i) {
        if (!within(i, 0, now.sounds - 1)) {
            return NONE;
        }
        rows.weighFromFront(now);
        rows.weighFromBack(now, false);
        int set = 0;
        for (int mood = 0; mood < MOODS; mood++) {
            if (rows.through(i, mood) > 0) {
                set |= 1 << mood;
            }
        }
        return set;
    }

    public int likeliest(int i) {
        if (!within(i, 0, now.sounds - 1)) {
            return NONE;
        }
        rows.weighFromBack(now, true);
        int mood = NONE;
        for (int k = 0; k <= i; k++) {
            mood = rows.heaviestBehind(now, k, mood);
        }
        return mood;
    }

    public long next(int sound, boolean low) {
        if (!isMood(sound)) {
            return NONE;
        }
        rows.weighFromFront(now);
        long all = 0;
        for (int other = 0; other < MOODS; other++) {
            all += rows.soundsNext(now, other);
        }
        return part(rows.soundsNext(now, sound), all, low);
    }

    // ---- CODES

    public int code(int word) {
        if (word == NONE) {
            now.words = 0;
            return 0;
        }
        if (!within(word, 1, LAST_WORD) || !within(now.words, 0, CODE_WORDS - 1)) {
            return OTHERS;
        }
        int key = Codes.keyOf(word);
        if (key == NO_KEY || Codes.isWord(now, key)) {
            return OTHERS;
        }
        now.word[now.words] = key;
        now.words++;
        return now.words;
    }

    public int clear() {
        return codes.shortestDoubt(now) == NONE ? 1 : 0;
    }

    public int doubt() {
        return codes.shortestDoubt(now);
    }

    public int free() {
        return Codes.isFree(now) ? 1 : 0;
    }

    public int reads(int message) {
        if (!within(message, 1, LAST_MESSAGE)) {
            return NONE;
        }
        int key = Codes.keyOf(message);
        return key == NO_KEY ? 0 : codes.waysToRead(now, key);
    }

    public int unread() {
        // KEYS go up with the digits, and among as many digits with the message
        for (int key = EMPTY_KEY + 1; key < MESSAGE_KEYS; key++) {
            if (codes.waysToRead(now, key) == 0) {
                return Codes.messageOf(key);
            }
        }
        return NONE;
    }

    public int room(boolean low) {
        int whole = 1 << CODE_WORDS;
        int taken = 0;
        for (int i = 0; i < now.words && i < CODE_WORDS; i++) {
            taken += whole >> Codes.lengthOf(now.word[i]);
        }
        return (int) part(taken, whole, low);
    }

    // ---- PRINTS

    public boolean print(int lodger, int stairs) {
        if (!isLodger(lodger) || !isStairSet(stairs)) {
            return false;
        }
        now.print[lodger] = stairs;
        return true;
    }

    public int enough(boolean many) {
        int fewest = TOP + 1;
        int found = NONE;
        for (int set = 0; set <= ALL_STAIRS; set += 2) {
            int size = Integer.bitCount(set);
            if (size < fewest && tellsAllApart(set)) {
                fewest = size;
                found = set;
            }
        }
        return many && found != NONE ? fewest : found;
    }

    public int fits(int stairs, int err) {
        if (!isStairSet(stairs) || !within(err, 0, TOP)) {
            return NONE;
        }
        int set = 0;
        for (int who = 0; who < tenants(); who++) {
            if (Integer.bitCount(now.print[who] ^ stairs) <= err) {
                set |= 1 << who;
            }
        }
        return set;
    }

    public int alone(int lodger) {
        if (!isLodger(lodger)) {
            return NONE;
        }
        int others = 0;
        for (int who = 0; who < tenants(); who++) {
            if (who != lodger) {
                others |= now.print[who];
            }
        }
        return now.print[lodger] & ~others;
    }

    public int shared() {
        int set = now.lodgers > 0 ? ALL_STAIRS : 0;
        for (int who = 0; who < tenants(); who++) {
            set &= now.print[who];
        }
        return set;
    }

    public int which() {
        int fewest = LODGERS + 1;
        int found = NONE;
        for (int stair = 1; stair <= TOP && now.lodgers > 1; stair++) {
            int with = 0;
            for (int who = 0; who < tenants(); who++) {
                with += now.print[who] >> stair & 1;
            }
            int left = Math.max(with, now.lodgers - with);
            if (left < fewest) {
                fewest = left;
                found = stair;
            }
        }
        return found;
    }

    // ---- The cheapest code, and whose law

    public boolean heavy(int message, int weight) {
        if (!within(message, 0, MESSAGES - 1) || !within(weight, 1, HEAVIEST)) {
            return false;
        }
        now.heavy[message] = weight;
        return true;
    }

    public int cheapest(int n) {
        if (!within(n, 1, MESSAGES)) {
            return NONE;
        }
        System.arraycopy(now.heavy, 0, piles, 0, n);
        int cost = 0;
        // each joining of two piles makes all words in them longer by one
        for (int left = n; left > 1; left--) {
            int lightest = takeLightest(left);
            int joined = lightest + takeLightest(left - 1);
            piles[left - 2] = joined;
            cost += joined;
        }
        return cost;
    }

    public int said(int lodger, int stair, int ticks) {
        if (lodger == NONE) {
            now.sayings = 0;
            return 0;
        }
        if (!isLodger(lodger) || !isStair(stair) || !within(ticks, 0, LOUDEST_TICK)
            || !within(now.sayings, 0, SAYINGS - 1)) {
            return OTHERS;
        }
        int at = now.sayings * SAYING;
        now.said[at] = lodger;
        now.said[at + 1] = stair;
        now.said[at + 2] = ticks;
        now.sayings++;
        return now.sayings;
    }

    public int whose() {
        int set = 0;
        for (int i = 0; i < now.texts; i++) {
            if (agreesWithSaid(textOf(i))) {
                set |= 1 << i;
            }
        }
        return set;
    }

    // ---- Sums over LODGERS and BOOK

    public int highest() {
        return mostOf(now.house.place);
    }

    public int restless() {
        return mostOf(now.house.trod);
    }

    public int home() {
        int set = 0;
        for (int who = 0; who < tenants(); who++) {
            if (now.house.place[who] == now.floor[who]) {
                set |= 1 << who;
            }
        }
        return set;
    }

    public int doubles() {
        int pairs = 0;
        for (int who = 0; who < tenants(); who++) {
            for (int other = 0; other < who; other++) {
                if (now.house.place[who] == now.house.place[other]) {
                    pairs++;
                }
            }
        }
        return pairs;
    }

    public int pause() {
        House house = now.house;
        int longest = NONE;
        for (int i = 1; i < house.lines && i < LINES; i++) {
            longest = Math.max(longest, house.book[i * LINE] - house.book[(i - 1) * LINE]);
        }
        return longest;
    }

    public int ledger(int stair) {
        if (stair != NONE && !isStair(stair)) {
            return OTHERS;
        }
        House house = now.house;
        int sum = 0;
        for (int i = 0; i < house.lines && i < LINES; i++) {
            if (stair == NONE || house.book[i * LINE + 1] == stair) {
                sum += house.book[i * LINE + 2];
            }
        }
        return sum;
    }

    // ---- THE IMAGE

    public int image() {
        image.copyState(now);
        return now.house.hour;
    }

    public int back() {
        now.copyState(image);
        return now.house.hour;
    }

    public int about(int what) {
        switch (what) {
            case 0:
                return now.lodgers;
            case 1:
                return now.texts;
            case 2:
                return now.ruling;
            case 3:
                return now.steps.count;
            case 4:
                return now.sounds;
            case 5:
                return now.words;
            case 6:
                return now.sayings;
            case 7:
                return taped;
            default:
                return OTHERS;
        }
    }

    // ---- What may be asked

    private static boolean within(int n, int low, int high) {
        return n >= low && n <= high;
    }

    private static boolean isPlace(int place) {
        return within(place, 0, TOP);
    }

    private static boolean isStair(int stair) {
        return within(stair, 1, TOP);
    }

    private static boolean isStairSet(int set) {
        return (set & ~ALL_STAIRS) == 0;
    }

    private static boolean isMood(int mood) {
        return within(mood, 0, MOODS - 1);
    }

    private static boolean isWayUp(int a, int b) {
        return isPlace(a) && isPlace(b) && a <= b;
    }

    private boolean isLodger(int lodger) {
        return lodger >= 0 && lodger < tenants();
    }

    /** How many LODGERS there are, never more than their rows have room for. */
    private int tenants() {
        return Math.min(now.lodgers, LODGERS);
    }

    private boolean hasCup(int stair) {
        return isStair(stair) && (now.house.cups >> stair & 1) == 1;
    }

    private Text textOf(int text) {
        return text >= 0 && text < TEXTS && text < now.texts ? library[text] : null;
    }

    // ---- Doing

    private void putFour(int four) {
        for (int shift = 24; shift >= 0; shift -= 8) {
            if (within(taped, 0, TEXT_BYTES - 1)) {
                tape[taped] = four >> shift & 255;
                taped++;
            }
        }
    }

    private int moveIn(int weight, int floor) {
        int who = now.lodgers;
        if (!within(who, 0, LODGERS - 1)) {
            return NONE;
        }
        now.weight[who] = weight;
        now.floor[who] = floor;
        now.lodgers++;
        return who;
    }

    private int treadAsStep(int lodger, boolean up, int n) {
        if (!within(n, 1, LONGEST_TREAD) || !canGo(lodger, up ? n : -n)) {
            return NONE;
        }
        now.steps.keep(now.house);
        return go(lodger, up ? n : -n);
    }

    private boolean hangAsStep(int stair, boolean cup) {
        if (!isStair(stair) || hasCup(stair) == cup) {
            return false;
        }
        now.steps.keep(now.house);
        now.house.cups ^= 1 << stair;
        return true;
    }

    private boolean canGo(int lodger, int places) {
        return isLodger(lodger) && isPlace(now.house.place[lodger] + places);
    }

    private int go(int lodger, int places) {
        House house = now.house;
        int place = house.place[lodger] + places;
        int loud = loudness(lodger, place, places > 0);
        house.place[lodger] = place;
        house.trod[lodger] = Math.min(house.trod[lodger] + 1, MOST_TROD);
        if (loud > 0) {
            house.write(place, loud);
        }
        return loud;
    }

    private int passHour() {
        House house = now.house;
        int heard = 0;
        house.late = house.x % 10;
        house.x = afterX(house.x);
        for (int who = 0; who < tenants(); who++) {
            int goes = goesBy(house.x % 4);
            house.x = afterX(house.x);
            if (goes != 0 && canGo(who, goes) && go(who, goes) > 0) {
                heard++;
            }
        }
        house.hour++;
        return heard;
    }

    private static int afterX(int x) {
        return (x * 557 + 431) % 30763;
    }

    private static int goesBy(int draw) {
        switch (draw) {
            case 0:
                return 1;
            case 1:
                return 2;
            case 2:
                return -1;
            default:
                return 0;
        }
    }

    // ---- Laws

    private int ticksBy(Text text, int lodger, int stair, boolean up) {
        House house = now.house;
        if (text == null || !text.rules(TICKS)) {
            return now.weight[lodger] + house.late;
        }
        law.tell(house, stair);
        law.tellLodger(now.weight[lodger], now.floor[lodger], lodger, house.trod[lodger], up ? 1 : 0);
        return law.says(text, TICKS);
    }

    private int leastHeard(int stair) {
        Text text = textOf(now.ruling);
        if (text == null || !text.rules(HEARS)) {
            return HEARS_UNTOLD;
        }
        law.tell(now.house, stair);
        return law.says(text, HEARS);
    }

    private int loudness(int lodger, int place, boolean up) {
        if (!hasCup(place)) {
            return 0;
        }
        int loud = ticksBy(textOf(now.ruling), lodger, place, up);
        return loud > 0 && loud >= leastHeard(place) ? loud : 0;
    }

    private int heardStairs(int lodger, boolean up) {
        int set = 0;
        for (int stair = 1; stair <= TOP; stair++) {
            if (loudness(lodger, stair, up) > 0) {
                set |= 1 << stair;
            }
        }
        return set;
    }

    private boolean agreesWithSaid(Text text) {
        for (int i = 0; i < now.sayings && i < SAYINGS; i++) {
            int at = i * SAYING;
            int lodger = now.said[at];
            if (!isLodger(lodger) || ticksBy(text, lodger, now.said[at + 1], true) != now.said[at + 2]) {
                return false;
            }
        }
        return true;
    }

    // ---- Ways

    private static boolean isQuiet(int from, int to, int loudUp, int loudDown) {
        return ((to > from ? loudUp : loudDown) >> to & 1) == 0;
    }

    /** Fills treads: from each PLACE the fewest quiet ones to the goal, NONE where there is no way. */
    private void countTreadsTo(int goal, int loudUp, int loudDown) {
        Arrays.fill(treads, NONE);
        treads[goal] = 0;
        for (int far = 0; far < TOP; far++) {
            for (int from = 0; from <= TOP; from++) {
                if (treads[from] == NONE && reaches(from, far, loudUp, loudDown) != NONE) {
                    treads[from] = far + 1;
                }
            }
        }
    }

    /** The lowest PLACE one quiet tread away that is so far from the goal. */
    private int reaches(int from, int far, int loudUp, int loudDown) {
        int last = Math.min(from + LONGEST_TREAD, TOP);
        for (int to = Math.max(from - LONGEST_TREAD, 0); to <= last; to++) {
            if (to != from && treads[to] == far && isQuiet(from, to, loudUp, loudDown)) {
                return to;
            }
        }
        return NONE;
    }

    private int nextQuiet(int place, int loudUp, int loudDown) {
        if (!isPlace(place)) {
            return NONE;
        }
        return reaches(place, treads[place] - 1, loudUp, loudDown);
    }

    private long countWays(int a, int b, int loud) {
        Arrays.fill(counts, 0L);
        counts[a] = 1;
        for (int place = a + 1; place <= b; place++) {
            if ((loud >> place & 1) == 0) {
                counts[place] = countFromBelow(place);
            }
        }
        return counts[b];
    }

    private long countFromBelow(int place) {
        long sum = 0;
        for (int from = Math.max(place - LONGEST_TREAD, 0); from < place; from++) {
            sum += counts[from];
        }
        return sum;
    }

    // ---- Small sums

    /** One by the other in lowest terms: the upper or the lower number. */
    private static long part(long upper, long lower, boolean low) {
        long a = upper;
        long b = lower;
        for (int i = 0; i < 200 && a != 0; i++) {
            long rest = b % a;
            b = a;
            a = rest;
        }
        if (lower <= 0 || b <= 0) {
            return NONE;
        }
        return low ? lower / b : upper / b;
    }

    private boolean tellsAllApart(int set) {
        for (int who = 0; who < tenants(); who++) {
            for (int other = 0; other < who; other++) {
                if (((now.print[who] ^ now.print[other]) & set) == 0) {
                    return false;
                }
            }
        }
        return true;
    }

    /** Takes the lightest of the first piles out; the last of them fills its gap. */
    private int takeLightest(int left) {
        int lightest = 0;
        for (int i = 1; i < left && i < MESSAGES; i++) {
            if (piles[i] < piles[lightest]) {
                lightest = i;
            }
        }
        int weight = piles[lightest];
        if (within(left, 1, MESSAGES)) {
            piles[lightest] = piles[left - 1];
        }
        return weight;
    }

    private int mostOf(int[] row) {
        int most = 0;
        int found = NONE;
        for (int who = 0; who < tenants() && who < row.length; who++) {
            if (row[who] > most) {
                most = row[who];
                found = who;
            }
        }
        return found;
    }

    private static void copyRow(int[] from, int[] to) {
        System.arraycopy(from, 0, to, 0, Math.min(from.length, to.length));
    }

    /** What STEPS take back. */
    private static final class House {
        int hour;
        int x;
        int late;
        int cups;
        int lines;
        final int[] place;
        final int[] trod;
        final int[] book;

        House() {
            hour = 0;
            x = FIRST_X;
            late = 0;
            cups = ALL_STAIRS;
            lines = 0;
            place = new int[LODGERS];
            trod = new int[LODGERS];
            book = new int[LINES * LINE];
        }

        void copyHouse(House from) {
            hour = from.hour;
            x = from.x;
            late = from.late;
            cups = from.cups;
            lines = from.lines;
            copyRow(from.place, place);
            copyRow(from.trod, trod);
            copyRow(from.book, book);
        }

        void write(int stair, int loud) {
            if (lines >= LINES) {
                System.arraycopy(book, LINE, book, 0, (LINES - 1) * LINE);
                lines = LINES - 1;
            }
            int at = Math.max(lines, 0) * LINE;
            book[at] = hour;
            book[at + 1] = stair;
            book[at + 2] = loud;
            lines = Math.max(lines, 0) + 1;
        }
    }

    /** The latest houses, each as it was ahead of a STEP, in a ring. */
    private static final class Steps {
        final House[] ahead;
        int first;
        int count;

        Steps() {
            ahead = new House[STEPS];
            for (int i = 0; i < STEPS; i++) {
                ahead[i] = new House();
            }
            first = 0;
            count = 0;
        }

        void copySteps(Steps from) {
            first = from.first;
            count = from.count;
            for (int i = 0; i < STEPS; i++) {
                House mine = ahead[i];
                House other = from.ahead[i];
                if (mine != null && other != null) {
                    mine.copyHouse(other);
                }
            }
        }

        void keep(House house) {
            House place = ahead[Math.floorMod(first + count, STEPS)];
            if (place != null) {
                place.copyHouse(house);
            }
            if (count < STEPS) {
                count++;
            } else {
                first = Math.floorMod(first + 1, STEPS);
            }
        }

        boolean takeBack(House house) {
            if (count <= 0) {
                return false;
            }
            count--;
            House latest = ahead[Math.floorMod(first + count, STEPS)];
            if (latest != null) {
                house.copyHouse(latest);
            }
            return true;
        }
    }

    /** All that an IMAGE keeps. */
    private static final class State {
        final House house;
        final Steps steps;
        int lodgers;
        final int[] weight;
        final int[] floor;
        final int[] print;
        int texts;
        int ruling;
        final int[] change;
        final int[] sound;
        final int[] listened;
        int sounds;
        final int[] word;
        int words;
        final int[] heavy;
        final int[] said;
        int sayings;

        State() {
            house = new House();
            steps = new Steps();
            lodgers = 0;
            weight = new int[LODGERS];
            floor = new int[LODGERS];
            print = new int[LODGERS];
            texts = 0;
            ruling = NONE;
            change = new int[MOODS * MOODS];
            sound = new int[MOODS * MOODS];
            Arrays.fill(change, 1);
            Arrays.fill(sound, 1);
            listened = new int[SOUNDS];
            sounds = 0;
            word = new int[CODE_WORDS];
            words = 0;
            heavy = new int[MESSAGES];
            Arrays.fill(heavy, 1);
            said = new int[SAYINGS * SAYING];
            sayings = 0;
        }

        void copyState(State from) {
            house.copyHouse(from.house);
            steps.copySteps(from.steps);
            lodgers = from.lodgers;
            copyRow(from.weight, weight);
            copyRow(from.floor, floor);
            copyRow(from.print, print);
            texts = from.texts;
            ruling = from.ruling;
            copyRow(from.change, change);
            copyRow(from.sound, sound);
            copyRow(from.listened, listened);
            sounds = from.sounds;
            copyRow(from.word, word);
            words = from.words;
            copyRow(from.heavy, heavy);
            copyRow(from.said, said);
            sayings = from.sayings;
        }
    }

    /** A TEXT that has been read: its CLAUSES, and the code of its laws for a stack. */
    private static final class Text {
        int clauses;
        final int[] kind;
        final int[] first;
        final int[] second;
        int size;
        final int[] op;
        final int[] arg;
        // of ticks, then of hears; NONE where there is no such law
        final int[] from;
        final int[] to;

        Text() {
            clauses = 0;
            kind = new int[CLAUSES];
            first = new int[CLAUSES];
            second = new int[CLAUSES];
            size = 0;
            op = new int[TEXT_BYTES];
            arg = new int[TEXT_BYTES];
            from = new int[2];
            to = new int[2];
            Arrays.fill(from, NONE);
        }

        void empty() {
            clauses = 0;
            size = 0;
            Arrays.fill(from, NONE);
        }

        void copyText(Text other) {
            clauses = other.clauses;
            copyRow(other.kind, kind);
            copyRow(other.first, first);
            copyRow(other.second, second);
            size = other.size;
            copyRow(other.op, op);
            copyRow(other.arg, arg);
            copyRow(other.from, from);
            copyRow(other.to, to);
        }

        boolean rules(int law) {
            return from[law == TICKS ? 0 : 1] != NONE;
        }

        void beginLaw(int law) {
            from[law == TICKS ? 0 : 1] = size;
        }

        void endLaw(int law) {
            to[law == TICKS ? 0 : 1] = size;
        }

        void addClause(int clause, int one, int two) {
            if (within(clauses, 0, CLAUSES - 1)) {
                kind[clauses] = clause;
                first[clauses] = one;
                second[clauses] = two;
                clauses++;
            }
        }

        /** Where the instruction stands. */
        int addCode(int code, int argument) {
            if (!within(size, 0, TEXT_BYTES - 1)) {
                return NONE;
            }
            op[size] = code;
            arg[size] = argument;
            size++;
            return size - 1;
        }

        void jumpToHere(int jump) {
            if (within(jump, 0, TEXT_BYTES - 1)) {
                arg[jump] = size;
            }
        }
    }

    /** Reads the tape: TOKENS first, then CLAUSES, to the first FAULT. */
    private static final class Reader {
        boolean hasRead;
        int fault;
        int place;
        final Text draft;
        private final int[] kinds;
        private final int[] values;
        private final int[] starts;
        private int tokens;
        private int at;
        // the TOKEN that is come to, and its value if it is a NUMBER
        private int token;
        private int number;
        private int law;

        Reader() {
            hasRead = false;
            fault = 0;
            place = NONE;
            draft = new Text();
            kinds = new int[TEXT_BYTES + 1];
            values = new int[TEXT_BYTES + 1];
            starts = new int[TEXT_BYTES + 1];
            tokens = 0;
            at = 0;
            token = THE_END;
            number = 0;
            law = TICKS;
        }

        boolean read(int[] tape, int length) {
            hasRead = true;
            fault = 0;
            place = NONE;
            draft.empty();
            cutTokens(tape, Math.min(length, tape.length));
            comeTo(0);
            boolean whole = true;
            for (int i = 0; i <= TEXT_BYTES && whole && token != THE_END; i++) {
                whole = readClause();
            }
            return whole;
        }

        // -- TOKENS

        private void cutTokens(int[] tape, int length) {
            tokens = 0;
            int from = 0;
            for (int i = 0; i < TEXT_BYTES && from < length; i++) {
                int sign = tape[from];
                int to = from + 1;
                if (isLetter(sign)) {
                    to = behindRun(tape, from, length, true);
                    addToken(wordOf(tape, from, to), from, 0);
                } else if (isDigit(sign)) {
                    to = behindRun(tape, from, length, false);
                    addToken(NUMBER, from, numberOf(tape, from, to));
                } else if (sign != ' ' && sign != '\n') {
                    int follower = to < length ? tape[to] : 0;
                    to += follower == '=' && (sign == '<' || sign == '>') ? 1 : 0;
                    addToken(signOf(sign, to - from), from, 0);
                }
                from = to;
            }
            addToken(THE_END, length, 0);
        }

        private void addToken(int kind, int start, int value) {
            if (within(tokens, 0, TEXT_BYTES)) {
                kinds[tokens] = kind;
                starts[tokens] = start;
                values[tokens] = value;
                tokens++;
            }
        }

        private static boolean isLetter(int sign) {
            return within(sign, 'a', 'z') || within(sign, 'A', 'Z');
        }

        private static boolean isDigit(int sign) {
            return within(sign, '0', '9');
        }

        private static int behindRun(int[] tape, int from, int length, boolean letters) {
            for (int i = from; i < length; i++) {
                if (!(letters ? isLetter(tape[i]) : isDigit(tape[i]))) {
                    return i;
                }
            }
            return length;
        }

        private static int numberOf(int[] tape, int from, int to) {
            int value = 0;
            for (int i = from; i < to; i++) {
                value = Math.min(value * 10 + tape[i] - '0', MOST_NUMBER + 1);
            }
            return value;
        }

        private static int wordOf(int[] tape, int from, int to) {
            int word = HOUR;
            int match = from;
            boolean same = true;
            for (int i = 0; i < WORDS.length(); i++) {
                char sign = WORDS.charAt(i);
                if (sign != ' ') {
                    same = same && match < to && tape[match] == sign;
                    match++;
                } else if (same && match == to) {
                    return word;
                } else {
                    word++;
                    match = from;
                    same = true;
                }
            }
            return BAD;
        }

        private static int signOf(int sign, int length) {
            if (length == 2) {
                return sign == '<' ? LESS_OR_EQUAL : MORE_OR_EQUAL;
            }
            for (int i = 0; i < SIGNS.length(); i++) {
                if (SIGNS.charAt(i) == sign) {
                    return LESS + i;
                }
            }
            return BAD;
        }

        private void comeTo(int next) {
            at = Math.max(0, Math.min(next, TEXT_BYTES));
            token = at < tokens ? kinds[at] : THE_END;
            number = at < tokens ? values[at] : 0;
        }

        private boolean fail(int what) {
            fault = what;
            place = at >= 0 && at < starts.length ? starts[at] : 0;
            return false;
        }

        private boolean pass(int what) {
            if (token != what) {
                return fail(1);
            }
            comeTo(at + 1);
            return true;
        }

        private boolean passNumber(int low, int high) {
            if (token != NUMBER) {
                return fail(1);
            }
            if (!within(number, low, high)) {
                return fail(2);
            }
            comeTo(at + 1);
            return true;
        }

        // -- CLAUSES

        private boolean readClause() {
            int word = token;
            boolean isLaw = word == TICKS || word == HEARS;
            if (word != HOUR && !within(word, TICKS, UNHANG)) {
                return fail(1);
            }
            if (isLaw && draft.rules(word)) {
                return fail(4);
            }
            if (draft.clauses >= CLAUSES) {
                return fail(6);
            }
            comeTo(at + 1);
            return (isLaw ? readLaw(word) : readDeed(word)) && pass(STOP);
        }

        private boolean readLaw(int word) {
            law = word;
            draft.addClause(word, 0, 0);
            draft.beginLaw(word);
            boolean whole = sum(0);
            draft.endLaw(word);
            return whole;
        }

        private boolean readDeed(int word) {
            switch (word) {
                case LODGER:
                    return readPair(word, MOST_WEIGHT, FLOOR, 1, TOP);
                case UP:
                case DOWN:
                    return readPair(word, LONGEST_TREAD, BY, 0, LODGERS - 1);
                case HOUR:
                    return readSingle(word, MOST_HOURS);
                default:
                    return readSingle(word, TOP);
            }
        }

        private boolean readPair(int word, int high, int between, int low2, int high2) {
            int first = number;
            if (!passNumber(1, high) || !pass(between)) {
                return false;
            }
            draft.addClause(word, first, number);
            return passNumber(low2, high2);
        }

        private boolean readSingle(int word, int high) {
            draft.addClause(word, number, 0);
            return passNumber(1, high);
        }

        // -- SUMS; open says how many of ( not near cups if - are open around

        private boolean sum(int open) {
            boolean whole = product(open);
            for (int i = 0; i <= TEXT_BYTES && whole && (token == PLUS || token == MINUS); i++) {
                int sign = token;
                comeTo(at + 1);
                whole = product(open);
                draft.addCode(sign, 0);
            }
            return whole;
        }

        private boolean product(int open) {
            boolean whole = one(open);
            for (int i = 0; i <= TEXT_BYTES && whole && (token == TIMES || token == OVER); i++) {
                int sign = token;
                comeTo(at + 1);
                whole = one(open);
                draft.addCode(sign, 0);
            }
            return whole;
        }

        private boolean one(int open) {
            int what = token;
            if (what == NUMBER) {
                draft.addCode(NUMBER, number);
                return passNumber(0, MOST_NUMBER);
            }
            if (within(what, HOUR, WAY)) {
                if (law == HEARS && what >= WEIGHT) {
                    return fail(5);
                }
                draft.addCode(NAME, what - HOUR);
                comeTo(at + 1);
                return true;
            }
            if (what != OPEN && what != MINUS && what != NEAR && what != CUPS && what != IF) {
                return fail(1);
            }
            if (open >= MOST_OPEN) {
                return fail(3);
            }
            comeTo(at + 1);
            return opened(what, open + 1);
        }

        private boolean opened(int what, int open) {
            switch (what) {
                case OPEN:
                    return sum(open) && pass(CLOSE);
                case IF:
                    return choice(open);
                case NEAR:
                    if (!one(open) || !pass(OF) || !one(open)) {
                        return false;
                    }
                    draft.addCode(NEAR, 0);
                    return true;
                default:
                    if (!one(open)) {
                        return false;
                    }
                    draft.addCode(what == MINUS ? NEGATE : CUPS, 0);
                    return true;
            }
        }

        private boolean choice(int open) {
            if (!either(open) || !pass(THEN)) {
                return false;
            }
            int unless = draft.addCode(UNLESS, 0);
            if (!sum(open) || !pass(ELSE)) {
                return false;
            }
            int jump = draft.addCode(JUMP, 0);
            draft.jumpToHere(unless);
            if (!sum(open) || !pass(END)) {
                return false;
            }
            draft.jumpToHere(jump);
            return true;
        }

        private boolean either(int open) {
            boolean whole = both(open);
            for (int i = 0; i <= TEXT_BYTES && whole && token == OR; i++) {
                comeTo(at + 1);
                whole = both(open);
                draft.addCode(OR, 0);
            }
            return whole;
        }

        private boolean both(int open) {
            boolean whole = ask(open);
            for (int i = 0; i <= TEXT_BYTES && whole && token == AND; i++) {
                comeTo(at + 1);
                whole = ask(open);
                draft.addCode(AND, 0);
            }
            return whole;
        }

        private boolean ask(int open) {
            if (token == NOT) {
                if (open >= MOST_OPEN) {
                    return fail(3);
                }
                comeTo(at + 1);
                boolean whole = ask(open + 1);
                draft.addCode(NOT, 0);
                return whole;
            }
            if (!sum(open)) {
                return false;
            }
            int sign = token;
            if (!within(sign, LESS, UNLIKE) && sign != LESS_OR_EQUAL && sign != MORE_OR_EQUAL) {
                return fail(1);
            }
            comeTo(at + 1);
            boolean whole = sum(open);
            draft.addCode(sign, 0);
            return whole;
        }
    }

    /** Runs the code of a law. */
    private static final class Law {
        private final int[] stack;
        private final int[] name;
        private int cups;

        Law() {
            stack = new int[STACK];
            name = new int[NAMES];
            cups = 0;
        }

        void tell(House house, int stair) {
            name[HOUR - HOUR] = house.hour;
            name[LATE - HOUR] = house.late;
            name[STAIR - HOUR] = stair;
            cups = house.cups;
        }

        void tellLodger(int weight, int floor, int who, int trod, int way) {
            name[WEIGHT - HOUR] = weight;
            name[FLOOR - HOUR] = floor;
            name[WHO - HOUR] = who;
            name[TROD - HOUR] = trod;
            name[WAY - HOUR] = way;
        }

        int says(Text text, int law) {
            int row = law == TICKS ? 0 : 1;
            int at = text.from[row];
            int to = Math.min(text.to[row], TEXT_BYTES);
            int top = 0;
            // jumps go forward alone, so that no instruction comes twice
            for (int i = 0; i < TEXT_BYTES && at >= 0 && at < to; i++) {
                int op = text.op[at];
                int arg = text.arg[at];
                at++;
                int taken = takenBy(op);
                if (top < taken || top >= STACK) {
                    return 0;
                }
                if (taken == 2) {
                    top--;
                    stack[top - 1] = join(op, stack[top - 1], stack[top]);
                } else if (op == UNLESS) {
                    top--;
                    at = stack[top] == 0 ? arg : at;
                } else if (op == JUMP) {
                    at = arg;
                } else if (taken == 1) {
                    stack[top - 1] = turn(op, stack[top - 1]);
                } else {
                    stack[top] = op == NAME && within(arg, 0, NAMES - 1) ? name[arg] : arg;
                    top++;
                }
            }
            return top > 0 ? Math.max(0, Math.min(stack[0], LOUDEST_TICK)) : 0;
        }

        private static int takenBy(int op) {
            switch (op) {
                case NUMBER:
                case NAME:
                case JUMP:
                    return 0;
                case NEGATE:
                case NOT:
                case CUPS:
                case UNLESS:
                    return 1;
                default:
                    return 2;
            }
        }

        private int turn(int op, int a) {
            switch (op) {
                case NEGATE:
                    return -a;
                case NOT:
                    return 1 - a;
                default:
                    return within(a, 1, TOP) ? cups >> a & 1 : 0;
            }
        }

        private static int join(int op, int a, int b) {
            switch (op) {
                case PLUS:
                    return Math.max(-FARTHEST, Math.min(a + b, FARTHEST));
                case MINUS:
                    return Math.max(-FARTHEST, Math.min(a - b, FARTHEST));
                case TIMES:
                    return (int) Math.max(-FARTHEST, Math.min((long) a * b, FARTHEST));
                case OVER:
                    return b == 0 ? 0 : a / b;
                case NEAR:
                    int over = b == 0 ? Math.abs(a) : Math.abs(a % b);
                    return b == 0 ? over : Math.min(over, Math.abs(b) - over);
                case AND:
                    return a & b;
                case OR:
                    return a | b;
                case LESS:
                    return a < b ? 1 : 0;
                case LESS_OR_EQUAL:
                    return a <= b ? 1 : 0;
                case MORE:
                    return a > b ? 1 : 0;
                case MORE_OR_EQUAL:
                    return a >= b ? 1 : 0;
                case EQUAL:
                    return a == b ? 1 : 0;
                default:
                    return a != b ? 1 : 0;
            }
        }
    }

    /** Weighs rows of MOODS for what was LISTENED to; a place of a row is i * MOODS + MOOD. */
    private static final class Moods {
        private final long[] front;
        private final long[] rear;

        Moods() {
            front = new long[SOUNDS * MOODS];
            rear = new long[SOUNDS * MOODS];
        }

        /** front: what all rows weigh up to the i-th, if that is a MOOD, its SOUND with it. */
        void weighFromFront(State state) {
            for (int i = 0; i < state.sounds && i < SOUNDS; i++) {
                for (int mood = 0; mood < MOODS; mood++) {
                    long before = i == 0 ? 1 : comesTo(state, i - 1, mood);
                    front[i * MOODS + mood] = before * soundWeight(state, i, mood);
                }
            }
        }

        /** rear: what all rows, or the heaviest one, weigh behind the i-th, if that is a MOOD, its SOUND aside. */
        void weighFromBack(State state, boolean heaviest) {
            int last = Math.min(state.sounds, SOUNDS) - 1;
            for (int i = last; i >= 0; i--) {
                for (int mood = 0; mood < MOODS; mood++) {
                    long weight = i == last ? 1 : 0;
                    for (int to = 0; to < MOODS && i < last; to++) {
                        long on = goesOn(state, i, mood, to);
                        weight = heaviest ? Math.max(weight, on) : weight + on;
                    }
                    rear[i * MOODS + mood] = weight;
                }
            }
        }

        /** The lowest MOOD of the i-th with which the row, behind the MOOD ahead of it, is heaviest. */
        int heaviestBehind(State state, int i, int ahead) {
            long most = 0;
            int found = NONE;
            for (int mood = 0; mood < MOODS && i >= 0 && i < SOUNDS; mood++) {
                long weight = rear[i * MOODS + mood] * soundWeight(state, i, mood);
                if (i > 0) {
                    weight *= isMood(ahead) ? state.change[ahead * MOODS + mood] : 0;
                }
                if (weight > most) {
                    most = weight;
                    found = mood;
                }
            }
            return found;
        }

        long all(int sounds) {
            if (!within(sounds, 1, SOUNDS)) {
                return 1;
            }
            long sum = 0;
            for (int mood = 0; mood < MOODS; mood++) {
                sum += front[(sounds - 1) * MOODS + mood];
            }
            return sum;
        }

        long through(int i, int mood) {
            int at = i * MOODS + mood;
            return within(at, 0, SOUNDS * MOODS - 1) ? front[at] * rear[at] : 0;
        }

        long soundsNext(State state, int sound) {
            long sum = 0;
            for (int mood = 0; mood < MOODS; mood++) {
                long before = state.sounds == 0 ? 1 : comesTo(state, state.sounds - 1, mood);
                sum += before * state.sound[mood * MOODS + sound];
            }
            return sum;
        }

        private long comesTo(State state, int i, int mood) {
            long sum = 0;
            for (int from = 0; from < MOODS && i >= 0 && i < SOUNDS; from++) {
                sum += front[i * MOODS + from] * state.change[from * MOODS + mood];
            }
            return sum;
        }

        private long goesOn(State state, int i, int mood, int to) {
            int at = (i + 1) * MOODS + to;
            if (!within(at, 0, SOUNDS * MOODS - 1)) {
                return 0;
            }
            return rear[at] * state.change[mood * MOODS + to] * soundWeight(state, i + 1, to);
        }

        private static int soundWeight(State state, int i, int mood) {
            int sound = within(i, 0, SOUNDS - 1) ? state.listened[i] : NONE;
            return isMood(sound) ? state.sound[mood * MOODS + sound] : 0;
        }
    }

    /** CODE WORDS and messages, as KEYS. */
    private static final class Codes {
        private final int[] least;
        private final int[] ways;

        Codes() {
            least = new int[WORD_KEYS];
            ways = new int[MESSAGE_DIGITS + 1];
        }

        /** NO_KEY, if it has other digits than 1 and 2. */
        static int keyOf(int message) {
            int key = 0;
            int digits = 0;
            int rest = message;
            for (int i = 0; i < MESSAGE_DIGITS && rest > 0; i++) {
                int digit = rest % 10;
                if (!within(digit, 1, 2)) {
                    return NO_KEY;
                }
                key |= digit - 1 << i;
                digits++;
                rest /= 10;
            }
            return key | 1 << digits;
        }

        static int messageOf(int key) {
            int message = 0;
            for (int i = lengthOf(key) - 1; i >= 0; i--) {
                message = message * 10 + 1 + (key >> i & 1);
            }
            return message;
        }

        static int lengthOf(int key) {
            int length = 0;
            for (int rest = key; rest > 1 && length < MESSAGE_DIGITS; rest >>= 1) {
                length++;
            }
            return length;
        }

        static boolean isWord(State state, int key) {
            for (int i = 0; i < state.words && i < CODE_WORDS; i++) {
                if (state.word[i] == key) {
                    return true;
                }
            }
            return false;
        }

        /** What is left of a key behind the digits of another one; NO_KEY, if it doesn't begin with them. */
        private static int behind(int key, int begin) {
            int left = lengthOf(key) - lengthOf(begin);
            if (left < 0 || key >> left != begin) {
                return NO_KEY;
            }
            return key & (1 << left) - 1 | 1 << left;
        }

        static boolean isFree(State state) {
            for (int i = 0; i < state.words && i < CODE_WORDS; i++) {
                for (int j = 0; j < state.words && j < CODE_WORDS; j++) {
                    if (i != j && behind(state.word[i], state.word[j]) != NO_KEY) {
                        return false;
                    }
                }
            }
            return true;
        }

        /**
         * Two readings of one message grow word by word; all that matters of them is what the longer one is ahead by.
         * least: the fewest digits of the longer one, for each such rest.
         */
        int shortestDoubt(State state) {
            Arrays.fill(least, FAR);
            for (int i = 0; i < state.words && i < CODE_WORDS; i++) {
                for (int j = 0; j < state.words && j < CODE_WORDS; j++) {
                    if (i != j) {
                        lower(behind(state.word[i], state.word[j]), lengthOf(state.word[i]));
                    }
                }
            }
            boolean lowered = true;
            for (int round = 0; round < WORD_KEYS && lowered; round++) {
                lowered = false;
                for (int rest = EMPTY_KEY + 1; rest < WORD_KEYS; rest++) {
                    if (least[rest] < FAR && goOn(state, rest)) {
                        lowered = true;
                    }
                }
            }
            return least[EMPTY_KEY] < FAR ? least[EMPTY_KEY] : NONE;
        }

        private boolean goOn(State state, int rest) {
            boolean lowered = false;
            for (int i = 0; i < state.words && i < CODE_WORDS; i++) {
                int word = state.word[i];
                int longer = Math.max(lengthOf(word) - lengthOf(rest), 0);
                boolean inside = lower(behind(rest, word), least[rest]);
                boolean beyond = lower(behind(word, rest), least[rest] + longer);
                lowered = lowered || inside || beyond;
            }
            return lowered;
        }

        private boolean lower(int rest, int digits) {
            if (!within(rest, EMPTY_KEY, WORD_KEYS - 1) || digits >= least[rest]) {
                return false;
            }
            least[rest] = digits;
            return true;
        }

        int waysToRead(State state, int key) {
            int length = lengthOf(key);
            Arrays.fill(ways, 0);
            ways[0] = 1;
            for (int to = 1; to <= length && to <= MESSAGE_DIGITS; to++) {
                int begin = key >> length - to;
                for (int i = 0; i < state.words && i < CODE_WORDS; i++) {
                    int word = state.word[i];
                    int from = to - lengthOf(word);
                    int mark = 1 << to - from;
                    if (from >= 0 && (begin & mark - 1 | mark) == word) {
                        ways[to] += ways[from];
                    }
                }
            }
            return ways[length];
        }
    }
}
