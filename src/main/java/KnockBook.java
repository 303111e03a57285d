import java.util.Arrays;
import java.util.NoSuchElementException;

/** A dictionary of knocks. DOC.md tells what each call answers; its TERMS are the words used here. */
public final class KnockBook {
    public static final int NONE = -1;

    private static final int TAPE_BYTES = 600;
    private static final int FEED_BYTES = 20;
    private static final int MOST_WORDS = 10;
    private static final int MOST_DOORS = 6;
    private static final int MOST_SOUNDS = 12;
    private static final int WORD_SOUNDS = 6;
    private static final int NEW_WORD_SOUNDS = 4;
    private static final int MOST_WORTH = 99;
    private static final int PARTS = 3;
    private static final int MOST_ACTS = 40;
    private static final int MOST_HEARD = 8;
    private static final int MOST_FROST = 60;
    private static final int GREATEST_ROW = 244140624;
    /** Above every sum of steps or SOUNDS that can come about. */
    private static final int FAR = 1000000;

    private static final int REFUSED_TEXTS = 0;
    private static final int REFUSED_ACTS = 1;
    private static final int REFUSED_HEARD = 2;

    private final BookText text = new BookText();
    private final State state = new State();
    private final State image = new State();
    private final Doors doors = new Doors();
    private final Joins joins = new Joins(state.words);
    private final Ruler ruler = new Ruler(state.words);
    private final Speech speech = new Speech(state.words, joins);
    private final Codes codes = new Codes(state.words);
    private final House house = new House(doors, state);
    private final Play play = new Play(house, ruler);
    private boolean imageKept;

    public KnockBook() {
    }

    public int feed(int a, int b, int c, int d, int e) {
        if (text.bytes + FEED_BYTES > TAPE_BYTES) {
            return NONE;
        }
        text.append(a);
        text.append(b);
        text.append(c);
        text.append(d);
        text.append(e);
        return text.bytes;
    }

    public int book(int n) throws IllegalArgumentException {
        if (n < 0 || n > text.bytes) {
            throw new IllegalArgumentException("the tape has not so many bytes");
        }
        int fault = text.parse(n);
        if (fault != 0) {
            state.status[REFUSED_TEXTS]++;
            return fault;
        }
        state.begin(text.words);
        doors.copyFrom(text.doors);
        joins.adopt(text.code, text.codes);
        imageKept = false;
        return 0;
    }

    public int fault() {
        return text.place;
    }

    public int count(int what) throws NoSuchElementException {
        switch (what) {
            case 0: return state.words.count;
            case 1: return doors.count;
            case 2: return state.wet;
            case 3: return state.words.worthOfAll();
            case 4: return state.words.soundsOfAll();
            case 5: return state.acts;
            case 6: return state.heard;
            case 7: return text.bytes;
            case 8: return state.status[REFUSED_TEXTS];
            case 9: return state.status[REFUSED_ACTS];
            case 10: return state.status[REFUSED_HEARD];
            default: throw new NoSuchElementException("no such count");
        }
    }

    public int word(int word, int what) throws NoSuchElementException {
        needWord(word);
        switch (what) {
            case 0: return state.words.row[word];
            case 1: return state.words.size[word];
            case 2: return state.words.part[word];
            case 3: return state.words.worth[word];
            case 4: return house.doorsThatCan(word);
            default: throw new NoSuchElementException("no such thing of a word");
        }
    }

    public int door(int door, int what) throws NoSuchElementException {
        needDoor(door);
        switch (what) {
            case 0: return doors.kind[door];
            case 1: return doors.hand[door];
            case 2: return state.isWet(door) ? 1 : 0;
            case 3: return house.wordsOfHand(door);
            case 4: return house.confounded(door);
            default: throw new NoSuchElementException("no such thing of a door");
        }
    }

    public int hears(int door, int row) throws NoSuchElementException, IllegalArgumentException {
        needDoor(door);
        needRow(row);
        return house.hearing(door, row);
    }

    public long read(int row, int what) throws NoSuchElementException, IllegalArgumentException {
        needWhat(what, 2);
        needRow(row);
        speech.lay(row);
        return what == 0 ? speech.waysLaid() : speech.fewestLaid();
    }

    public int reading(int row, int i) throws IllegalArgumentException, NoSuchElementException {
        needRow(row);
        speech.lay(row);
        if (i < 0 || i >= speech.fewestLaid()) {
            throw new NoSuchElementException("the reading has no such word");
        }
        return speech.wordLaid(i);
    }

    public int apart(int row, int other) throws IllegalArgumentException {
        needRow(row);
        needRow(other);
        return ruler.steps(row, other);
    }

    public int nearest(int row, int what) throws NoSuchElementException, IllegalArgumentException {
        needWhat(what, 2);
        needRow(row);
        int word = ruler.nearestWord(row);
        if (word == NONE || what == 0) {
            return word;
        }
        return ruler.steps(row, state.words.row[word]);
    }

    public int take(int row, int part, int worth) {
        Words words = state.words;
        boolean fits = words.count < MOST_WORDS && Rows.isRow(row) && row != 0
            && Rows.size(row) <= WORD_SOUNDS && words.find(row) == NONE
            && isPart(part) && isWorth(worth);
        if (!fits) {
            return refuseAct();
        }
        int place = words.count;
        words.insert(place, row, part, worth);
        state.keepAct(State.TAKEN, place, row, part, worth);
        joins.renew();
        return place;
    }

    public int die(int word) throws NoSuchElementException {
        needWord(word);
        int row = state.words.row[word];
        state.keepWord(State.DIED, word);
        state.words.remove(word);
        joins.renew();
        return row;
    }

    public int worth(int word, int worth) throws NoSuchElementException {
        needWord(word);
        if (!isWorth(worth)) {
            return refuseAct();
        }
        int was = state.words.worth[word];
        state.keepWord(State.CHANGED, word);
        state.words.change(word, state.words.part[word], worth);
        joins.renew();
        return was;
    }

    public int part(int word, int part) throws NoSuchElementException {
        needWord(word);
        if (!isPart(part)) {
            return refuseAct();
        }
        int was = state.words.part[word];
        state.keepWord(State.CHANGED, word);
        state.words.change(word, part, state.words.worth[word]);
        joins.renew();
        return was;
    }

    public boolean rain(int door, boolean wet) throws NoSuchElementException {
        needDoor(door);
        if (state.isWet(door) == wet) {
            state.status[REFUSED_ACTS]++;
            return false;
        }
        state.keepAct(State.RAINED, door, 0, 0, 0);
        state.turnWeather(door);
        return true;
    }

    public int undo() {
        if (state.acts == 0) {
            return NONE;
        }
        state.undoLast();
        joins.renew();
        return state.acts;
    }

    public int mend(int row) throws IllegalArgumentException {
        needRow(row);
        return speech.stepsToRead(row);
    }

    public int twoWays() {
        return codes.shortestAmbiguous();
    }

    public int prefixes() {
        return codes.prefixCouples();
    }

    public int tellApart() {
        return house.fewestDoors();
    }

    public int newWord(int doors) throws IllegalArgumentException {
        if (doors < 0 || doors >= 1 << this.doors.count) {
            throw new IllegalArgumentException("bits of doors that there aren't");
        }
        return house.freshRow(doors);
    }

    public int span(int word, int other) throws NoSuchElementException {
        needWord(word);
        needWord(other);
        return ruler.steps(state.words.row[word], state.words.row[other]);
    }

    public int closest(int what) throws NoSuchElementException {
        needWhat(what, 2);
        int couple = ruler.closestCouple();
        if (couple == NONE || what == 1) {
            return couple;
        }
        return ruler.steps(state.words.row[couple / 10], state.words.row[couple % 10]);
    }

    public int said(int sounds) throws IllegalArgumentException {
        if (sounds < 0 || sounds > MOST_SOUNDS) {
            throw new IllegalArgumentException("not 0 to 12 sounds");
        }
        return speech.mostWorth(sounds);
    }

    public long howMany(int sounds) throws IllegalArgumentException {
        if (sounds < 1 || sounds > MOST_SOUNDS) {
            throw new IllegalArgumentException("not 1 to 12 sounds");
        }
        return speech.rowsOf(sounds);
    }

    public int hear(int door, int row) throws NoSuchElementException {
        needDoor(door);
        if (state.heard >= MOST_HEARD || !Rows.isRow(row)) {
            state.status[REFUSED_HEARD]++;
            return NONE;
        }
        state.heardDoor[state.heard] = door;
        state.heardRow[state.heard] = row;
        state.heard++;
        return state.heard;
    }

    public int which() {
        return house.wordsHeard();
    }

    public int listen(int what) throws NoSuchElementException {
        needWhat(what, 2);
        int bits = house.wordsHeard();
        int door = house.tellingDoor(bits);
        if (what == 0) {
            return door;
        }
        return door == NONE ? 0 : house.unlike(door, bits);
    }

    public void forget() {
        state.heard = 0;
    }

    public int telegraph(int door, int other) throws NoSuchElementException {
        needDoor(door);
        needDoor(other);
        return play.passing(door, other);
    }

    public int game(int door, int other, int what) throws NoSuchElementException, IllegalArgumentException {
        needDoor(door);
        needDoor(other);
        needWhat(what, 2);
        if (door == other) {
            throw new IllegalArgumentException("both doors are one");
        }
        play.settle(door, other);
        return what == 0 ? play.resting : play.firstResting;
    }

    public int frost(int seed, int n, int what) throws NoSuchElementException, IllegalArgumentException {
        needWhat(what, 3);
        if (n < 0 || n > MOST_FROST) {
            throw new IllegalArgumentException("not 0 to 60 times");
        }
        play.freeze(seed, n);
        switch (what) {
            case 0: return play.understood;
            case 1: return play.worthUnderstood;
            default: return play.silent;
        }
    }

    public void image() {
        image.copyFrom(state);
        imageKept = true;
    }

    public boolean restore() {
        if (!imageKept) {
            return false;
        }
        state.copyFrom(image);
        joins.renew();
        return true;
    }

    private void needWord(int word) {
        if (word < 0 || word >= state.words.count) {
            throw new NoSuchElementException("no such word");
        }
    }

    private void needDoor(int door) {
        if (door < 0 || door >= doors.count) {
            throw new NoSuchElementException("no such door");
        }
    }

    private static void needWhat(int what, int bound) {
        if (what < 0 || what >= bound) {
            throw new NoSuchElementException("no such thing to ask for");
        }
    }

    private static void needRow(int row) {
        if (!Rows.isRow(row)) {
            throw new IllegalArgumentException("no row");
        }
    }

    private static boolean isPart(int part) {
        return part >= 0 && part < PARTS;
    }

    private static boolean isWorth(int worth) {
        return worth >= 0 && worth <= MOST_WORTH;
    }

    private int refuseAct() {
        state.status[REFUSED_ACTS]++;
        return NONE;
    }

    /** What a ROW's number tells. A ROW stays a number; its SOUNDS are digits by fives. */
    private static final class Rows {
        static final int KNUCKLE = 1;
        static final int PALM = 2;
        static final int RING = 3;
        static final int SLIDE = 4;
        private static final int[] FIVES = {
            1, 5, 25, 125, 625, 3125, 15625, 78125, 390625, 1953125, 9765625, 48828125, 244140625};

        static boolean isRow(int row) {
            if (row < 0 || row > GREATEST_ROW) {
                return false;
            }
            int rest = row;
            for (int i = 0; i < MOST_SOUNDS && rest > 0; i++) {
                if (rest % 5 == 0) {
                    return false;
                }
                rest /= 5;
            }
            return true;
        }

        static int size(int row) {
            int size = 0;
            while (size < MOST_SOUNDS && row >= FIVES[size]) {
                size++;
            }
            return size;
        }

        /** The SOUNDS from one place to ahead of another, as a number; 0 for places that aren't there. */
        static int slice(int row, int size, int from, int to) {
            if (from < 0 || to < from || size < to || size > MOST_SOUNDS) {
                return 0;
            }
            return row / FIVES[size - to] % FIVES[to - from];
        }

        static int soundAt(int row, int size, int i) {
            return slice(row, size, i, i + 1);
        }

        static int withoutFirst(int row) {
            int size = size(row);
            return slice(row, size, 1, size);
        }

        static int withoutLast(int row) {
            return row / 5;
        }

        static int withLast(int row, int sound) {
            return size(row) < MOST_SOUNDS ? row * 5 + sound : row;
        }

        static int withFirst(int row, int sound) {
            int size = size(row);
            return size < MOST_SOUNDS ? sound * FIVES[size] + row : row;
        }

        static int withoutPalms(int row) {
            int left = 0;
            int scale = 1;
            int rest = row;
            for (int i = 0; i < MOST_SOUNDS && rest > 0; i++) {
                if (rest % 5 != PALM) {
                    left += rest % 5 * scale;
                    scale *= 5;
                }
                rest /= 5;
            }
            return left;
        }

        static int knucklesForRings(int row) {
            int left = 0;
            int scale = 1;
            int rest = row;
            for (int i = 0; i < MOST_SOUNDS && rest > 0; i++) {
                left += (rest % 5 == RING ? KNUCKLE : rest % 5) * scale;
                scale *= 5;
                rest /= 5;
            }
            return left;
        }

        /** Which SOUNDS there are, as the bits of a HAND. */
        static int soundsIn(int row) {
            int bits = 0;
            int rest = row;
            for (int i = 0; i < MOST_SOUNDS && rest > 0; i++) {
                bits |= handBit(rest % 5);
                rest /= 5;
            }
            return bits;
        }

        static int handBit(int sound) {
            return sound < 1 ? 0 : 1 << (sound - 1);
        }

        /** Writes the SOUNDS out, the first one first: how many. */
        static int spread(int row, int[] into) {
            int size = size(row);
            int rest = row;
            for (int i = size - 1; i >= 0; i--) {
                if (i < into.length) {
                    into[i] = rest % 5;
                }
                rest /= 5;
            }
            return size;
        }
    }

    /** The WORDS in the order of their numbers. */
    private static final class Words {
        private final int[] row = new int[MOST_WORDS];
        private final int[] size = new int[MOST_WORDS];
        private final int[] part = new int[MOST_WORDS];
        private final int[] worth = new int[MOST_WORDS];
        private int count;

        void insert(int place, int newRow, int newPart, int newWorth) {
            if (count >= MOST_WORDS || place < 0 || place > count) {
                return;
            }
            for (int i = count; i > place; i--) {
                move(i - 1, i);
            }
            row[place] = newRow;
            size[place] = Rows.size(newRow);
            part[place] = newPart;
            worth[place] = newWorth;
            count++;
        }

        void remove(int place) {
            if (place < 0 || place >= count) {
                return;
            }
            for (int i = place + 1; i < count; i++) {
                move(i, i - 1);
            }
            count--;
        }

        private void move(int from, int to) {
            row[to] = row[from];
            size[to] = size[from];
            part[to] = part[from];
            worth[to] = worth[from];
        }

        void change(int place, int newPart, int newWorth) {
            if (place >= 0 && place < count) {
                part[place] = newPart;
                worth[place] = newWorth;
            }
        }

        int find(int wanted) {
            for (int i = 0; i < count; i++) {
                if (row[i] == wanted) {
                    return i;
                }
            }
            return NONE;
        }

        int worthOfAll() {
            int sum = 0;
            for (int i = 0; i < count; i++) {
                sum += worth[i];
            }
            return sum;
        }

        int soundsOfAll() {
            int sum = 0;
            for (int i = 0; i < count; i++) {
                sum += size[i];
            }
            return sum;
        }

        void copyFrom(Words other) {
            System.arraycopy(other.row, 0, row, 0, MOST_WORDS);
            System.arraycopy(other.size, 0, size, 0, MOST_WORDS);
            System.arraycopy(other.part, 0, part, 0, MOST_WORDS);
            System.arraycopy(other.worth, 0, worth, 0, MOST_WORDS);
            count = other.count;
        }
    }

    /** The DOORS without their weather, which is the State's, since an IMAGE keeps that alone. */
    private static final class Doors {
        static final int PINE = 0;
        static final int OAK = 1;
        static final int FELT = 2;
        static final int GLASS = 3;
        private final int[] kind = new int[MOST_DOORS];
        private final int[] hand = new int[MOST_DOORS];
        private int count;

        void add(int newKind, int newHand) {
            if (count < MOST_DOORS) {
                kind[count] = newKind;
                hand[count] = newHand;
                count++;
            }
        }

        void copyFrom(Doors other) {
            System.arraycopy(other.kind, 0, kind, 0, MOST_DOORS);
            System.arraycopy(other.hand, 0, hand, 0, MOST_DOORS);
            count = other.count;
        }

        boolean can(int door, int row) {
            return (Rows.soundsIn(row) & ~hand[door]) == 0;
        }

        int throughWood(int door, int row) {
            switch (kind[door]) {
                case OAK: return Rows.withoutLast(row);
                case FELT: return Rows.withoutPalms(row);
                case GLASS: return Rows.knucklesForRings(row);
                default: return row;
            }
        }
    }

    /** All that an IMAGE keeps. Of each ACT there is what stood there ahead of it, so that it can be UNDONE. */
    private static final class State {
        static final int TAKEN = 0;
        static final int DIED = 1;
        /** A WORTH or a PART became another; both are kept as they were. */
        static final int CHANGED = 2;
        static final int RAINED = 3;
        private static final int ACT_FIELDS = 5;
        private final Words words = new Words();
        private final int[] log = new int[MOST_ACTS * ACT_FIELDS];
        private final int[] heardDoor = new int[MOST_HEARD];
        private final int[] heardRow = new int[MOST_HEARD];
        private final int[] status = new int[3];
        private int acts;
        private int heard;
        private int wet;

        /** A new BOOK: STATUS alone goes on. */
        void begin(Words newWords) {
            words.copyFrom(newWords);
            acts = 0;
            heard = 0;
            wet = 0;
        }

        void copyFrom(State other) {
            words.copyFrom(other.words);
            System.arraycopy(other.log, 0, log, 0, log.length);
            System.arraycopy(other.heardDoor, 0, heardDoor, 0, MOST_HEARD);
            System.arraycopy(other.heardRow, 0, heardRow, 0, MOST_HEARD);
            System.arraycopy(other.status, 0, status, 0, status.length);
            acts = other.acts;
            heard = other.heard;
            wet = other.wet;
        }

        boolean isWet(int door) {
            return ((wet >> door) & 1) != 0;
        }

        void turnWeather(int door) {
            wet ^= 1 << door;
        }

        void keepWord(int act, int word) {
            keepAct(act, word, words.row[word], words.part[word], words.worth[word]);
        }

        void keepAct(int act, int place, int row, int part, int worth) {
            if (acts >= MOST_ACTS) {
                System.arraycopy(log, ACT_FIELDS, log, 0, (MOST_ACTS - 1) * ACT_FIELDS);
                acts = MOST_ACTS - 1;
            }
            int at = acts * ACT_FIELDS;
            log[at] = act;
            log[at + 1] = place;
            log[at + 2] = row;
            log[at + 3] = part;
            log[at + 4] = worth;
            acts++;
        }

        void undoLast() {
            if (acts <= 0) {
                return;
            }
            acts--;
            int at = acts * ACT_FIELDS;
            int place = log[at + 1];
            switch (log[at]) {
                case TAKEN:
                    words.remove(place);
                    break;
                case DIED:
                    words.insert(place, log[at + 2], log[at + 3], log[at + 4]);
                    break;
                case CHANGED:
                    words.change(place, log[at + 3], log[at + 4]);
                    break;
                default:
                    turnWeather(place);
                    break;
            }
        }
    }

    /** JOINS: the rule's EXPR with each sign behind what it joins, and what is known of it already. */
    private static final class Joins {
        static final int LEFT = -1;
        static final int RIGHT = -2;
        static final int FIRST = -3;
        static final int NEXT = -4;
        static final int LONG = -5;
        static final int SAME = -6;
        static final int NOT = -7;
        static final int OR = -8;
        static final int AND = -9;
        static final int LESS = -10;
        static final int EQUAL = -11;
        static final int PLUS = -12;
        static final int MINUS = -13;
        static final int TIMES = -14;
        static final int DIVIDED = -15;
        /** Five open operands in each of 6 EXPRS and six in the innermost one are the most there can be. */
        private static final int STACK = 64;
        private static final int UNKNOWN = 0;
        private static final int MAY = 1;
        private static final int MAY_NOT = 2;
        private final Words words;
        private final int[] code = new int[TAPE_BYTES];
        private final int[] stack = new int[STACK];
        private final int[] known = new int[MOST_WORDS * MOST_WORDS];
        private int codes;

        Joins(Words words) {
            this.words = words;
        }

        void adopt(int[] newCode, int newCodes) {
            int fits = Math.min(newCodes, Math.min(newCode.length, TAPE_BYTES));
            System.arraycopy(newCode, 0, code, 0, fits);
            codes = fits;
            renew();
        }

        /** What was known is void as soon as a WORD changes. */
        void renew() {
            Arrays.fill(known, UNKNOWN);
        }

        boolean mayFollow(int ahead, int word) {
            if (codes == 0) {
                return true;
            }
            int at = ahead * MOST_WORDS + word;
            if (known[at] == UNKNOWN) {
                known[at] = value(ahead, word) != 0 ? MAY : MAY_NOT;
            }
            return known[at] == MAY;
        }

        private int value(int ahead, int word) {
            int top = 0;
            for (int i = 0; i < codes; i++) {
                int step = code[i];
                if (step >= SAME) {
                    if (top < STACK) {
                        stack[top] = step >= 0 ? step : valueOf(step, ahead, word);
                        top++;
                    }
                } else if (step == NOT) {
                    if (top >= 1) {
                        stack[top - 1] = stack[top - 1] == 0 ? 1 : 0;
                    }
                } else if (top >= 2) {
                    top--;
                    stack[top - 1] = joined(step, stack[top - 1], stack[top]);
                }
            }
            return top >= 1 ? stack[top - 1] : 0;
        }

        private int valueOf(int name, int ahead, int word) {
            switch (name) {
                case LEFT: return words.part[ahead];
                case RIGHT: return words.part[word];
                case FIRST: return words.worth[ahead];
                case NEXT: return words.worth[word];
                case LONG: return words.size[word];
                default: return ahead == word ? 1 : 0;
            }
        }

        private static int joined(int sign, int a, int b) {
            switch (sign) {
                case OR: return a != 0 || b != 0 ? 1 : 0;
                case AND: return a != 0 && b != 0 ? 1 : 0;
                case LESS: return a < b ? 1 : 0;
                case EQUAL: return a == b ? 1 : 0;
                case PLUS: return a + b;
                case MINUS: return a - b;
                case TIMES: return a * b;
                default: return b == 0 ? 0 : a / b;
            }
        }
    }

    /** The tape, and the BOOK that is told on it: drafts, so that a FAULT leaves all as it was. */
    private static final class BookText {
        private static final int CANT_STAND = 1;
        private static final int TOO_MUCH = 2;
        private static final int UNKNOWN_WORD = 3;
        private static final int TWICE = 4;
        private static final int SECOND_JOINS = 5;

        /** Kinds of TOKENS; a sign's kind is its byte. STOPPED is behind a FAULT and can stand nowhere. */
        private static final int END = 0;
        private static final int WORD = 1;
        private static final int NUMBER = 2;
        private static final int NO_TOKEN = 3;
        private static final int STOPPED = 4;

        private static final String SIGNS = ";()+-*/<=";
        private static final int NUMBER_DIGITS = 4;
        private static final int MOST_EXPRS_AROUND = 6;
        private static final int MOST_NOTS = 6;

        private final int[] tape = new int[TAPE_BYTES / 4];
        private final Words words = new Words();
        private final Doors doors = new Doors();
        private final int[] code = new int[TAPE_BYTES];
        private int bytes;
        private int codes;
        private int length;
        private int kind;
        private int from;
        private int to;
        private int fault;
        private int place = NONE;

        void append(int four) {
            if (bytes + 4 <= TAPE_BYTES) {
                tape[bytes / 4] = four;
                bytes += 4;
            }
        }

        int parse(int n) {
            length = n;
            bytes = 0;
            words.count = 0;
            doors.count = 0;
            codes = 0;
            to = 0;
            fault = 0;
            place = NONE;
            advance();
            for (int i = 0; i < TAPE_BYTES && kind != END && kind != STOPPED; i++) {
                line();
            }
            return fault;
        }

        private void line() {
            int part = partNamed();
            int wood = woodNamed();
            if (part != NONE) {
                wordLine(part);
            } else if (wood != NONE) {
                doorLine(wood);
            } else if (isNamed("joins")) {
                joinsLine();
            } else {
                fail(CANT_STAND);
            }
            passSign(';');
        }

        private void wordLine(int part) {
            if (words.count >= MOST_WORDS) {
                fail(TOO_MUCH);
            }
            advance();
            int row = rowTold();
            advance();
            int worth = worthTold();
            advance();
            if (fault == 0) {
                words.insert(words.count, row, part, worth);
            }
        }

        private void doorLine(int wood) {
            if (doors.count >= MOST_DOORS) {
                fail(TOO_MUCH);
            }
            advance();
            int hand = handTold();
            advance();
            if (fault == 0) {
                doors.add(wood, hand);
            }
        }

        private void joinsLine() {
            if (codes > 0) {
                fail(SECOND_JOINS);
            }
            advance();
            expr(0);
        }

        private int rowTold() {
            if (!isOfSounds()) {
                return 0;
            }
            if (to - from > WORD_SOUNDS) {
                return fail(TOO_MUCH);
            }
            int row = 0;
            for (int i = from; i < to; i++) {
                row = row * 5 + soundNamed(byteAt(i));
            }
            return words.find(row) == NONE ? row : fail(TWICE);
        }

        private int handTold() {
            if (!isOfSounds()) {
                return 0;
            }
            int hand = 0;
            for (int i = from; i < to; i++) {
                int bit = Rows.handBit(soundNamed(byteAt(i)));
                if ((hand & bit) != 0) {
                    return fail(TWICE);
                }
                hand |= bit;
            }
            return hand;
        }

        private boolean isOfSounds() {
            if (kind != WORD) {
                fail(CANT_STAND);
                return false;
            }
            for (int i = from; i < to; i++) {
                if (soundNamed(byteAt(i)) == 0) {
                    fail(UNKNOWN_WORD);
                    return false;
                }
            }
            return true;
        }

        private int worthTold() {
            if (kind != NUMBER) {
                return fail(CANT_STAND);
            }
            int worth = numberTold();
            return worth <= MOST_WORTH ? worth : fail(TOO_MUCH);
        }

        private int numberTold() {
            if (to - from > NUMBER_DIGITS) {
                return fail(TOO_MUCH);
            }
            int number = 0;
            for (int i = from; i < to; i++) {
                number = number * 10 + byteAt(i) - '0';
            }
            return number;
        }

        /** Within 6 others no EXPR can begin, so it never goes deeper than that. */
        private void expr(int around) {
            if (around >= MOST_EXPRS_AROUND && (kind == NUMBER || kind == WORD || kind == '(')) {
                fail(TOO_MUCH);
            }
            conjunction(around);
            for (int i = 0; i < TAPE_BYTES && isNamed("or"); i++) {
                advance();
                conjunction(around);
                emit(Joins.OR);
            }
        }

        private void conjunction(int around) {
            negation(around);
            for (int i = 0; i < TAPE_BYTES && isNamed("and"); i++) {
                advance();
                negation(around);
                emit(Joins.AND);
            }
        }

        private void negation(int around) {
            int nots = 0;
            while (nots < MOST_NOTS && isNamed("not")) {
                advance();
                nots++;
            }
            if (isNamed("not")) {
                fail(TOO_MUCH);
            }
            comparison(around);
            for (int i = 0; i < nots; i++) {
                emit(Joins.NOT);
            }
        }

        private void comparison(int around) {
            sum(around);
            if (kind == '<' || kind == '=') {
                int sign = kind == '<' ? Joins.LESS : Joins.EQUAL;
                advance();
                sum(around);
                emit(sign);
            }
        }

        private void sum(int around) {
            product(around);
            for (int i = 0; i < TAPE_BYTES && (kind == '+' || kind == '-'); i++) {
                int sign = kind == '+' ? Joins.PLUS : Joins.MINUS;
                advance();
                product(around);
                emit(sign);
            }
        }

        private void product(int around) {
            operand(around);
            for (int i = 0; i < TAPE_BYTES && (kind == '*' || kind == '/'); i++) {
                int sign = kind == '*' ? Joins.TIMES : Joins.DIVIDED;
                advance();
                operand(around);
                emit(sign);
            }
        }

        private void operand(int around) {
            if (kind == NUMBER) {
                emit(numberTold());
                advance();
            } else if (kind == WORD) {
                emit(valueNamed());
                advance();
            } else if (kind == '(') {
                advance();
                expr(around + 1);
                passSign(')');
            } else {
                fail(CANT_STAND);
            }
        }

        private int valueNamed() {
            if (isNamed("left")) {
                return Joins.LEFT;
            }
            if (isNamed("right")) {
                return Joins.RIGHT;
            }
            if (isNamed("first")) {
                return Joins.FIRST;
            }
            if (isNamed("next")) {
                return Joins.NEXT;
            }
            if (isNamed("long")) {
                return Joins.LONG;
            }
            return isNamed("same") ? Joins.SAME : fail(UNKNOWN_WORD);
        }

        private int partNamed() {
            if (isNamed("thing")) {
                return 0;
            }
            if (isNamed("deed")) {
                return 1;
            }
            return isNamed("prayer") ? 2 : NONE;
        }

        private int woodNamed() {
            if (isNamed("pine")) {
                return Doors.PINE;
            }
            if (isNamed("oak")) {
                return Doors.OAK;
            }
            if (isNamed("felt")) {
                return Doors.FELT;
            }
            return isNamed("glass") ? Doors.GLASS : NONE;
        }

        private static int soundNamed(int letter) {
            switch (letter) {
                case 'k': return Rows.KNUCKLE;
                case 'p': return Rows.PALM;
                case 'r': return Rows.RING;
                case 's': return Rows.SLIDE;
                default: return 0;
            }
        }

        private void emit(int step) {
            if (fault == 0 && codes < code.length) {
                code[codes] = step;
                codes++;
            }
        }

        private void passSign(char sign) {
            if (kind != sign) {
                fail(CANT_STAND);
            }
            advance();
        }

        /** The first FAULT stays; behind it no TOKEN comes any more, so that all runs out by itself. */
        private int fail(int newFault) {
            if (fault == 0) {
                fault = newFault;
                place = from;
                kind = STOPPED;
            }
            return 0;
        }

        private boolean isNamed(String name) {
            if (kind != WORD || to - from != name.length()) {
                return false;
            }
            for (int i = 0; i < name.length(); i++) {
                if (byteAt(from + i) != name.charAt(i)) {
                    return false;
                }
            }
            return true;
        }

        private void advance() {
            if (fault != 0) {
                return;
            }
            from = to;
            while (from < length && isBlank(byteAt(from))) {
                from++;
            }
            to = Math.min(from + 1, length);
            int first = byteAt(from);
            if (from >= length) {
                kind = END;
            } else if (isLetter(first)) {
                kind = WORD;
                while (to < length && isLetter(byteAt(to))) {
                    to++;
                }
            } else if (isDigit(first)) {
                kind = NUMBER;
                while (to < length && isDigit(byteAt(to))) {
                    to++;
                }
            } else {
                kind = SIGNS.indexOf((char) first) >= 0 ? first : NO_TOKEN;
            }
        }

        private int byteAt(int i) {
            if (i < 0 || i >= length || i >= TAPE_BYTES) {
                return 0;
            }
            return (tape[i / 4] >>> (24 - i % 4 * 8)) & 255;
        }

        private static boolean isBlank(int b) {
            return b == 32 || b == 10;
        }

        private static boolean isLetter(int b) {
            return b >= 'a' && b <= 'z';
        }

        private static boolean isDigit(int b) {
            return b >= '0' && b <= '9';
        }
    }

    /** How far ROWS are APART. */
    private static final class Ruler {
        private final Words words;
        private final int[] left = new int[MOST_SOUNDS];
        private final int[] right = new int[MOST_SOUNDS];
        private final int[] line = new int[MOST_SOUNDS + 1];

        Ruler(Words words) {
            this.words = words;
        }

        int steps(int row, int other) {
            return stepsFromLeft(Rows.spread(row, left), other);
        }

        int nearestWord(int row) {
            int size = Rows.spread(row, left);
            int best = NONE;
            int least = FAR;
            for (int word = 0; word < words.count; word++) {
                // ROWS are APART by the SOUNDS that one has more, at the least: that spares most of the work
                if (Math.abs(size - words.size[word]) < least) {
                    int steps = stepsFromLeft(size, words.row[word]);
                    best = steps < least ? word : best;
                    least = steps < least ? steps : least;
                }
            }
            return best;
        }

        /** 10 by the lesser WORD and the other one. */
        int closestCouple() {
            int best = NONE;
            int least = FAR;
            for (int word = 0; word < words.count; word++) {
                int size = Rows.spread(words.row[word], left);
                for (int other = word + 1; other < words.count; other++) {
                    int steps = stepsFromLeft(size, words.row[other]);
                    if (steps < least) {
                        least = steps;
                        best = 10 * word + other;
                    }
                }
            }
            return best;
        }

        private int stepsFromLeft(int size, int other) {
            int otherSize = Rows.spread(other, right);
            for (int j = 0; j <= otherSize; j++) {
                line[j] = j;
            }
            for (int i = 0; i < size; i++) {
                int corner = line[0];
                line[0] = i + 1;
                for (int j = 0; j < otherSize; j++) {
                    int kept = left[i] == right[j] ? corner : corner + 1;
                    corner = line[j + 1];
                    int moved = (corner < line[j] ? corner : line[j]) + 1;
                    line[j + 1] = kept < moved ? kept : moved;
                }
            }
            return line[otherSize];
        }
    }

    /** WORDS one behind the other that may follow so. */
    private static final class Speech {
        /** Of each WORD a cell ahead of it and one behind each of its SOUNDS. */
        private static final int CELLS = WORD_SOUNDS + 1;
        private final Words words;
        private final Joins joins;
        /** By a place in a ROW (or a number of SOUNDS) and the WORD that begins there. */
        private final long[] ways = new long[(MOST_SOUNDS + 1) * MOST_WORDS];
        private final int[] few = new int[(MOST_SOUNDS + 1) * MOST_WORDS];
        private final int[] sounds = new int[MOST_SOUNDS];
        private final int[] cost = new int[MOST_WORDS * CELLS];

        Speech(Words words, Joins joins) {
            this.words = words;
            this.joins = joins;
        }

        /** Lays a ROW out from its end: what the rest of it can be READ as, by the WORD that begins it. */
        void lay(int row) {
            int size = Rows.size(row);
            for (int at = size; at >= 0; at--) {
                for (int word = 0; word < words.count; word++) {
                    layWord(row, size, at, word);
                }
            }
        }

        private void layWord(int row, int size, int at, int word) {
            int cell = at * MOST_WORDS + word;
            int end = at + words.size[word];
            ways[cell] = 0;
            few[cell] = 0;
            if (end > size || Rows.slice(row, size, at, end) != words.row[word]) {
                return;
            }
            if (end == size) {
                ways[cell] = 1;
                few[cell] = 1;
                return;
            }
            for (int next = 0; next < words.count; next++) {
                int rest = end * MOST_WORDS + next;
                if (few[rest] > 0 && joins.mayFollow(word, next)) {
                    ways[cell] += ways[rest];
                    few[cell] = few[cell] == 0 ? few[rest] + 1 : Math.min(few[cell], few[rest] + 1);
                }
            }
        }

        long waysLaid() {
            long sum = 0;
            for (int word = 0; word < words.count; word++) {
                sum += ways[word];
            }
            return sum;
        }

        /** 0: the ROW that was laid can't be READ. */
        int fewestLaid() {
            int fewest = 0;
            for (int word = 0; word < words.count; word++) {
                if (few[word] > 0 && (fewest == 0 || few[word] < fewest)) {
                    fewest = few[word];
                }
            }
            return fewest;
        }

        int wordLaid(int i) {
            int left = fewestLaid();
            int at = 0;
            int word = NONE;
            for (int step = 0; step <= i && step < MOST_SOUNDS; step++) {
                word = firstLaid(at, word, left - step);
                if (word == NONE) {
                    return NONE;
                }
                at += words.size[word];
            }
            return word;
        }

        private int firstLaid(int at, int ahead, int left) {
            for (int word = 0; at <= MOST_SOUNDS && word < words.count; word++) {
                boolean fits = few[at * MOST_WORDS + word] == left;
                if (fits && (ahead == NONE || joins.mayFollow(ahead, word))) {
                    return word;
                }
            }
            return NONE;
        }

        long rowsOf(int size) {
            long sum = 0;
            for (int length = 1; length <= size; length++) {
                sum = 0;
                for (int word = 0; word < words.count; word++) {
                    countRows(length, word);
                    sum += ways[length * MOST_WORDS + word];
                }
            }
            return sum;
        }

        private void countRows(int length, int word) {
            int cell = length * MOST_WORDS + word;
            int rest = length - words.size[word];
            ways[cell] = rest == 0 ? 1 : 0;
            for (int next = 0; rest > 0 && next < words.count; next++) {
                if (ways[rest * MOST_WORDS + next] > 0 && joins.mayFollow(word, next)) {
                    ways[cell] += ways[rest * MOST_WORDS + next];
                }
            }
        }

        int mostWorth(int size) {
            int most = 0;
            for (int length = 1; length <= size; length++) {
                for (int word = 0; word < words.count; word++) {
                    layWorth(length, word);
                    most = Math.max(most, few[length * MOST_WORDS + word]);
                }
            }
            return most;
        }

        private void layWorth(int length, int word) {
            int cell = length * MOST_WORDS + word;
            int rest = length - words.size[word];
            few[cell] = rest == 0 ? words.worth[word] : NONE;
            for (int next = 0; rest > 0 && next < words.count; next++) {
                int more = few[rest * MOST_WORDS + next];
                if (more != NONE && joins.mayFollow(word, next)) {
                    few[cell] = Math.max(few[cell], more + words.worth[word]);
                }
            }
        }

        /** TO MEND: what it costs to have passed so much of the ROW, by WORD and SOUNDS of it that are said. */
        int stepsToRead(int row) {
            int size = Rows.spread(row, sounds);
            Arrays.fill(cost, FAR);
            for (int word = 0; word < words.count; word++) {
                cost[word * CELLS] = 0;
            }
            sayMore();
            for (int i = 0; i < size; i++) {
                passSound(sounds[i]);
                sayMore();
            }
            int least = FAR;
            for (int word = 0; word < words.count; word++) {
                least = Math.min(least, cost[word * CELLS + words.size[word]]);
            }
            return least == FAR ? NONE : least;
        }

        private void passSound(int sound) {
            for (int word = 0; word < words.count; word++) {
                int begin = word * CELLS;
                int size = words.size[word];
                for (int j = size; j > 0; j--) {
                    boolean kept = Rows.soundAt(words.row[word], size, j - 1) == sound;
                    int passed = cost[begin + j - 1] + (kept ? 0 : 1);
                    cost[begin + j] = Math.min(cost[begin + j] + 1, passed);
                }
                cost[begin]++;
            }
        }

        /** SOUNDS that come in. Whole WORDS may, where the rule wants one between; none of them twice. */
        private void sayMore() {
            boolean changed = true;
            for (int round = 0; changed && round <= words.count; round++) {
                for (int word = 0; word < words.count; word++) {
                    saySounds(word);
                }
                changed = false;
                for (int word = 0; word < words.count; word++) {
                    changed |= beginBehind(word);
                }
            }
        }

        private void saySounds(int word) {
            int begin = word * CELLS;
            for (int j = 1; j <= words.size[word]; j++) {
                cost[begin + j] = Math.min(cost[begin + j], cost[begin + j - 1] + 1);
            }
        }

        private boolean beginBehind(int ahead) {
            boolean changed = false;
            int said = cost[ahead * CELLS + words.size[ahead]];
            for (int word = 0; word < words.count; word++) {
                if (said < cost[word * CELLS] && joins.mayFollow(ahead, word)) {
                    cost[word * CELLS] = said;
                    changed = true;
                }
            }
            return changed;
        }
    }

    /** WORDS as a code, whatever may follow. */
    private static final class Codes {
        private final Words words;
        /**
         * By a WORD and a place within it: the SOUNDS of the shortest row of which one way
         * is ahead of the other by this WORD from this place on.
         */
        private final int[] length = new int[MOST_WORDS * WORD_SOUNDS];
        private final boolean[] passed = new boolean[MOST_WORDS * WORD_SOUNDS];

        Codes(Words words) {
            this.words = words;
        }

        int prefixCouples() {
            int couples = 0;
            for (int word = 0; word < words.count; word++) {
                for (int other = 0; other < words.count; other++) {
                    couples += beginsWith(word, other) ? 1 : 0;
                }
            }
            return couples;
        }

        private boolean beginsWith(int word, int other) {
            int size = words.size[other];
            return size < words.size[word]
                && Rows.slice(words.row[word], words.size[word], 0, size) == words.row[other];
        }

        int shortestAmbiguous() {
            begin();
            for (int i = 0; i < length.length; i++) {
                int lead = shortestLead();
                if (lead == NONE) {
                    return NONE;
                }
                passed[lead] = true;
                if (catchUp(lead)) {
                    return length[lead];
                }
            }
            return NONE;
        }

        private void begin() {
            Arrays.fill(length, FAR);
            for (int i = 0; i < passed.length; i++) {
                passed[i] = false;
            }
            for (int word = 0; word < words.count; word++) {
                for (int other = 0; other < words.count; other++) {
                    if (beginsWith(word, other)) {
                        shorten(word, words.size[other], words.size[word]);
                    }
                }
            }
        }

        private int shortestLead() {
            int best = NONE;
            for (int i = 0; i < length.length; i++) {
                if (!passed[i] && length[i] < FAR && (best == NONE || length[i] < length[best])) {
                    best = i;
                }
            }
            return best;
        }

        /** One more WORD for the way that is behind: whether both are even by one. */
        private boolean catchUp(int lead) {
            int word = lead / WORD_SOUNDS;
            int from = lead % WORD_SOUNDS;
            int size = words.size[word];
            int gap = size - from;
            int rest = Rows.slice(words.row[word], size, from, size);
            for (int next = 0; next < words.count; next++) {
                int step = words.size[next];
                int common = Math.min(gap, step);
                if (Rows.slice(rest, gap, 0, common) == Rows.slice(words.row[next], step, 0, common)) {
                    if (gap == step) {
                        return true;
                    }
                    if (step < gap) {
                        shorten(word, from + step, length[lead]);
                    } else {
                        shorten(next, gap, length[lead] + step - gap);
                    }
                }
            }
            return false;
        }

        private void shorten(int word, int from, int sounds) {
            int lead = word * WORD_SOUNDS + from;
            length[lead] = Math.min(length[lead], sounds);
        }
    }

    /** What DOORS HEAR of WORDS. */
    private static final class House {
        private final Doors doors;
        private final State state;
        private final Words words;
        private final int[] ofWord = new int[MOST_DOORS * MOST_WORDS];
        private final int[] telling = new int[MOST_WORDS * MOST_WORDS];

        House(Doors doors, State state) {
            this.doors = doors;
            this.state = state;
            this.words = state.words;
        }

        int hearing(int door, int row) {
            int heard = doors.throughWood(door, row);
            return state.isWet(door) ? Rows.withLast(heard, Rows.KNUCKLE) : heard;
        }

        boolean can(int door, int word) {
            return doors.can(door, words.row[word]);
        }

        int doorsThatCan(int word) {
            int bits = 0;
            for (int door = 0; door < doors.count; door++) {
                bits |= can(door, word) ? 1 << door : 0;
            }
            return bits;
        }

        int wordsOfHand(int door) {
            int bits = 0;
            for (int word = 0; word < words.count; word++) {
                bits |= can(door, word) ? 1 << word : 0;
            }
            return bits;
        }

        int confounded(int door) {
            hearWords(door);
            int couples = 0;
            for (int word = 0; word < words.count; word++) {
                for (int other = word + 1; other < words.count; other++) {
                    couples += soundsAlike(door, word, other) ? 1 : 0;
                }
            }
            return couples;
        }

        private void hearWords(int door) {
            for (int word = 0; word < words.count; word++) {
                ofWord[door * MOST_WORDS + word] = hearing(door, words.row[word]);
            }
        }

        private void hearAll() {
            for (int door = 0; door < doors.count; door++) {
                hearWords(door);
            }
        }

        private boolean soundsAlike(int door, int word, int other) {
            return ofWord[door * MOST_WORDS + word] == ofWord[door * MOST_WORDS + other];
        }

        int fewestDoors() {
            hearAll();
            int couples = layTelling();
            int best = NONE;
            for (int bits = 0; bits < 1 << doors.count; bits++) {
                boolean fewer = best == NONE || Integer.bitCount(bits) < Integer.bitCount(best);
                if (fewer && tellsAll(bits, couples)) {
                    best = bits;
                }
            }
            return best;
        }

        /** Of each couple of WORDS the DOORS that tell them apart, as bits. */
        private int layTelling() {
            int couples = 0;
            for (int word = 0; word < words.count; word++) {
                for (int other = word + 1; other < words.count; other++) {
                    int bits = 0;
                    for (int door = 0; door < doors.count; door++) {
                        bits |= soundsAlike(door, word, other) ? 0 : 1 << door;
                    }
                    telling[couples] = bits;
                    couples++;
                }
            }
            return couples;
        }

        private boolean tellsAll(int bits, int couples) {
            for (int i = 0; i < couples; i++) {
                if ((telling[i] & bits) == 0) {
                    return false;
                }
            }
            return true;
        }

        /** Numbers grow with the SOUNDS, so the least one has the fewest. */
        int freshRow(int bits) {
            hearAll();
            int hand = commonHand(bits);
            for (int row = 1; row < Rows.FIVES[NEW_WORD_SOUNDS]; row++) {
                boolean free = Rows.isRow(row) && (Rows.soundsIn(row) & ~hand) == 0
                    && words.find(row) == NONE;
                if (free && isHeardAnew(row)) {
                    return row;
                }
            }
            return NONE;
        }

        private int commonHand(int bits) {
            int hand = 15;
            for (int door = 0; door < doors.count; door++) {
                hand &= ((bits >> door) & 1) != 0 ? doors.hand[door] : 15;
            }
            return hand;
        }

        private boolean isHeardAnew(int row) {
            for (int door = 0; door < doors.count; door++) {
                int sound = hearing(door, row);
                for (int word = 0; word < words.count; word++) {
                    if (ofWord[door * MOST_WORDS + word] == sound) {
                        return false;
                    }
                }
            }
            return true;
        }

        int wordsHeard() {
            int bits = 0;
            for (int word = 0; word < words.count; word++) {
                bits |= agreesWithHeard(word) ? 1 << word : 0;
            }
            return bits;
        }

        private boolean agreesWithHeard(int word) {
            for (int i = 0; i < state.heard; i++) {
                if (hearing(state.heardDoor[i], words.row[word]) != state.heardRow[i]) {
                    return false;
                }
            }
            return true;
        }

        int tellingDoor(int bits) {
            int best = NONE;
            int most = 0;
            for (int door = 0; door < doors.count; door++) {
                int unlike = unlike(door, bits);
                if (unlike > most) {
                    most = unlike;
                    best = door;
                }
            }
            return best;
        }

        /** How many unlike things a DOOR HEARS of these WORDS. */
        int unlike(int door, int bits) {
            hearWords(door);
            int unlike = 0;
            for (int word = 0; word < words.count; word++) {
                boolean isNew = ((bits >> word) & 1) != 0;
                for (int other = 0; isNew && other < word; other++) {
                    isNew = ((bits >> other) & 1) == 0 || !soundsAlike(door, word, other);
                }
                unlike += isNew ? 1 : 0;
            }
            return unlike;
        }
    }

    /** What is knocked at another one's DOOR: a TELEGRAPH, a GAME, FROST. */
    private static final class Play {
        private static final int SAME_WORD_LOSS = 20;
        private final House house;
        private final Ruler ruler;
        private final Words words;
        private final int[] gain = new int[MOST_WORDS];
        private final int[] otherGain = new int[MOST_WORDS];
        private int resting;
        private int firstResting;
        private int seed;
        private int understood;
        private int worthUnderstood;
        private int silent;

        Play(House house, Ruler ruler) {
            this.house = house;
            this.ruler = ruler;
            this.words = house.words;
        }

        int passing(int door, int other) {
            int bits = 0;
            for (int word = 0; word < words.count; word++) {
                bits |= house.can(door, word) && isUnderstood(word, other) ? 1 << word : 0;
            }
            return bits;
        }

        private boolean isUnderstood(int word, int door) {
            return ruler.nearestWord(house.hearing(door, words.row[word])) == word;
        }

        void settle(int door, int other) {
            layGains(door, other, gain);
            layGains(other, door, otherGain);
            resting = 0;
            firstResting = NONE;
            for (int word = 0; word < words.count; word++) {
                for (int answer = 0; answer < words.count; answer++) {
                    if (rests(gain, word, answer) && rests(otherGain, answer, word)) {
                        firstResting = resting == 0 ? 10 * word + answer : firstResting;
                        resting++;
                    }
                }
            }
        }

        /** NONE for a WORD that the HAND can't do. */
        private void layGains(int door, int other, int[] gains) {
            for (int word = 0; word < words.count; word++) {
                if (house.can(door, word)) {
                    gains[word] = isUnderstood(word, other) ? words.worth[word] : 0;
                } else {
                    gains[word] = NONE;
                }
            }
        }

        private boolean rests(int[] gains, int word, int answer) {
            if (gains[word] == NONE) {
                return false;
            }
            for (int instead = 0; instead < words.count; instead++) {
                if (gains[instead] != NONE && net(gains, instead, answer) > net(gains, word, answer)) {
                    return false;
                }
            }
            return true;
        }

        private static int net(int[] gains, int word, int answer) {
            return gains[word] - (word == answer ? SAME_WORD_LOSS : 0);
        }

        void freeze(int newSeed, int n) {
            seed = newSeed;
            understood = 0;
            worthUnderstood = 0;
            silent = 0;
            if (house.doors.count == 0 || words.count == 0) {
                return;
            }
            for (int i = 0; i < n; i++) {
                int door = draw(house.doors.count);
                int word = draw(words.count);
                int row = frozen(house.hearing(door, words.row[word]), draw(4));
                if (ruler.nearestWord(row) == word) {
                    understood++;
                    worthUnderstood += words.worth[word];
                }
                silent += row == 0 ? 1 : 0;
            }
        }

        private int draw(int n) {
            seed = seed * 1103515245 + 12345;
            return n <= 0 ? 0 : ((seed >>> 16) & 32767) % n;
        }

        private static int frozen(int row, int how) {
            switch (how) {
                case 0: return Rows.withoutFirst(row);
                case 1: return Rows.withoutLast(row);
                case 2: return Rows.withFirst(row, Rows.SLIDE);
                default: return row;
            }
        }
    }
}
