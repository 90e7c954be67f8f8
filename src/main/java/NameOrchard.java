import java.util.Arrays;
import java.util.NoSuchElementException;

/** An orchard whose apples fall when their names are called in the lane. */
public final class NameOrchard {
    public static final int NONE = -1;

    private static final int NO_ANSWER = -2;
    private static final int MARKS = 4;
    private static final int UNDOS = 16;

    private final Reader reader = new Reader();
    private final State state = new State();
    private final Standing trial = new Standing();
    private final Search search = new Search();
    private final Draws draws = new Draws();
    private final State[] marks = new State[MARKS];
    private final int[] tally = new int[Told.APPLES];
    /** Of the strangers who call one apple: of ten days those on which they don't come. */
    private final int[] absent = new int[Told.STRANGERS];
    private final Standing[] earlier = new Standing[UNDOS];
    private Told told = new Told();
    private Told draft = new Told();
    private int undoable;
    private int laid;

    public NameOrchard() {
        for (int i = 0; i < marks.length; i++) {
            marks[i] = new State();
        }
        for (int i = 0; i < earlier.length; i++) {
            earlier[i] = new Standing();
        }
        told.settle();
        draft.settle();
        state.begin(told);
    }

    public int feed(long a, long b, long c) {
        reader.tape.put(a);
        reader.tape.put(b);
        reader.tape.put(c);
        return reader.tape.length;
    }

    public int orchard() {
        int fault = reader.readOrchard(draft);
        if (fault == 0) {
            Told older = told;
            told = draft;
            draft = older;
            state.begin(told);
            undoable = 0;
            laid = 0;
        }
        return fault;
    }

    public int days() {
        int fault = reader.readDays(told);
        if (fault == 0) {
            state.lines.copy(reader.lines);
        }
        return fault;
    }

    public int apple(int apple, int what) {
        if (!told.hasApple(apple)) {
            return NONE;
        }
        switch (what) {
            case 0:
            case 1:
            case 2:
            case 3:
            case 4:
                return told.apples.at(apple, what);
            case 5:
                return state.now.hangs(apple) ? 1 : 0;
            case 6:
                return state.now.soundOf(apple);
            case 7:
                return state.now.isLoose(apple) ? 1 : 0;
            case 8:
                return told.apples.at(apple, Told.TWIN);
            case 9:
                return told.valueOf(apple, state.now.day);
            default:
                return NONE;
        }
    }

    public int near(int called, int sound, int what) {
        if (!told.hasSound(called) || !told.hasSound(sound)) {
            return NONE;
        }
        switch (what) {
            case 0:
                return told.sounds.edits(called, sound);
            case 1:
                return told.sounds.start(called, sound);
            case 2:
                return told.sounds.rhyme(called, sound);
            case 3:
                return told.nearTo(called) >> sound & 1;
            default:
                return NONE;
        }
    }

    public int says(int person, int sound) {
        if (!told.hasPerson(person) || !told.hasSound(sound)) {
            return NONE;
        }
        return told.canSay(person, sound) ? 1 : 0;
    }

    public int falls(int person, int sound) {
        if (!told.canSay(person, sound)) {
            return NONE;
        }
        return state.now.fallers(told, told.laneOf(person), told.loudOf(person), sound);
    }

    public int call(int person, int sound) {
        if (!told.canSay(person, sound)) {
            return NONE;
        }
        keepForUndo();
        return state.now.cry(told, told.laneOf(person), told.loudOf(person), sound);
    }

    public int pick(int apple) {
        if (!state.now.canTake(apple)) {
            return NONE;
        }
        keepForUndo();
        return state.now.take(told, apple);
    }

    public boolean christen(int apple, int sound) {
        boolean green = told.hasApple(apple) && (told.unripe(state.now.day) >> apple & 1) != 0;
        if (!green || !told.hasSound(sound) || !state.now.hangs(apple)) {
            return false;
        }
        if (state.now.soundOf(apple) == sound || state.now.hasOther(apple, sound)) {
            return false;
        }
        keepForUndo();
        state.now.name(apple, sound);
        return true;
    }

    public int pass(int many) {
        if (many < 1 || many > 30) {
            return NONE;
        }
        keepForUndo();
        for (int i = 0; i < many; i++) {
            state.now.nextDay();
        }
        return state.now.day;
    }

    public boolean undo() {
        if (undoable < 1 || undoable > earlier.length) {
            return false;
        }
        undoable--;
        state.now.copy(earlier[undoable]);
        return true;
    }

    public int judged(int what) {
        if (what < 0 || what > 2) {
            return NO_ANSWER;
        }
        trial.begin(told);
        int refused = NONE;
        int green = NONE;
        for (int i = 0; i < state.lines.size(); i++) {
            int unripe = told.unripe(trial.day);
            int fallen = live(i);
            if (fallen == NONE) {
                refused = refused == NONE ? i : refused;
            } else if ((fallen & unripe) != 0 && green == NONE) {
                green = i;
            }
        }
        if (what == 2) {
            return trial.had;
        }
        return what == 0 ? refused : green;
    }

    public int crop(int many, int what) {
        if (many < 0 || many > Search.DAYS || what < 0 || what > 1) {
            return NO_ANSWER;
        }
        search.harvest(told, state.now, many);
        return what == 0 ? search.most : search.first;
    }

    public int fetch() {
        return search.fewest(told, state.now);
    }

    public boolean lies(int apple, boolean there) {
        if (!told.hasApple(apple)) {
            return false;
        }
        state.seen |= 1 << apple;
        state.lying = there ? state.lying | 1 << apple : state.lying & ~(1 << apple);
        return true;
    }

    public int called(int what) {
        if (what < 0 || what > 3) {
            return NONE;
        }
        Arrays.fill(tally, 0);
        int many = 0;
        int sounds = 0;
        int people = 0;
        for (int person = 0; person < told.people.size(); person++) {
            for (int sound = 0; sound < told.sounds.size(); sound++) {
                if (wasHeard(person, sound)) {
                    many++;
                    sounds |= 1 << sound;
                    people |= 1 << person;
                }
            }
        }
        if (what == 0) {
            return many;
        }
        if (many == 0) {
            return NONE;
        }
        if (what == 3) {
            return evenest(many);
        }
        return what == 1 ? sounds : people;
    }

    public boolean tell(int called, int sound, boolean near) {
        if (!told.hasSound(called) || !told.hasSound(sound) || state.tellings.full()) {
            return false;
        }
        int row = state.tellings.add();
        state.tellings.put(row, 0, told.sounds.edits(called, sound));
        state.tellings.put(row, 1, told.sounds.rhyme(called, sound));
        state.tellings.put(row, 2, near ? 1 : 0);
        return true;
    }

    public int laws(int what) {
        int many = 0;
        int edits = NONE;
        int rhyme = NONE;
        for (int a = 0; a <= 4; a++) {
            for (int b = 8; b >= 1; b--) {
                if (fits(a, b)) {
                    edits = many == 0 ? a : edits;
                    rhyme = many == 0 ? b : rhyme;
                    many++;
                }
            }
        }
        switch (what) {
            case 0:
                return many;
            case 1:
                return edits;
            case 2:
                return rhyme;
            default:
                return NONE;
        }
    }

    public int loss(int many) {
        if (many < 1 || many > 30) {
            return NONE;
        }
        int lost = 0;
        for (int apple = 0; apple < told.apples.size(); apple++) {
            lost += lossOf(state.now, apple, many);
        }
        return lost;
    }

    public int best(int apple, int many) {
        if (many < 1 || many > 30 || !state.now.hangs(apple)) {
            return NONE;
        }
        trial.copy(state.now);
        int best = NONE;
        int least = 0;
        for (int sound = 0; sound < told.sounds.size(); sound++) {
            if (state.now.hasOther(apple, sound)) {
                continue;
            }
            trial.name(apple, sound);
            // What the other ones lose stays the same.
            int lost = lossOf(trial, apple, many);
            if (best == NONE || lost < least) {
                best = sound;
                least = lost;
            }
        }
        return best;
    }

    public int thief(int page, int lane, int loud) throws NoSuchElementException {
        if (page < 0 || page >= told.pages.size() || !isVoice(lane, loud)) {
            throw new NoSuchElementException("no such page, lane or voice");
        }
        return stolen(page, lane, loud);
    }

    public int hide(int lane, int loud) {
        int pages = told.pages.size();
        if (pages < 2 || !isVoice(lane, loud)) {
            return NONE;
        }
        int hidden = NONE;
        int least = 0;
        for (int page = 0; page < pages; page++) {
            int most = 0;
            for (int other = 0; other < pages; other++) {
                most = other == page ? most : Math.max(most, stolen(other, lane, loud));
            }
            if (hidden == NONE || most < least) {
                hidden = page;
                least = most;
            }
        }
        return hidden;
    }

    public int banns(int lane, int loud, int what) {
        int many = told.banns.size();
        if (many == 0 || !isVoice(lane, loud) || what < 0 || what > many) {
            return NONE;
        }
        int order = NONE;
        int least = 0;
        for (int code = 0; code < 1 << 2 * many; code++) {
            if (!isOrder(code, many)) {
                continue;
            }
            int lost = lostByBanns(code, lane, loud);
            if (order == NONE || lost < least) {
                order = code;
                least = lost;
            }
        }
        return what == 0 ? least : bannAt(order, many, what - 1);
    }

    public int years(int seed, int many, int what) {
        if (seed < 0 || seed > 9999 || many < 1 || many > 60 || what < 0 || what > 2) {
            return NONE;
        }
        trial.copy(state.now);
        draws.begin(seed);
        int green = 0;
        for (int i = 0; i < many; i++) {
            int unripe = told.unripe(trial.day);
            int fallen = drawStrangers() | drawPerson();
            green += Integer.bitCount(fallen & unripe);
            pickFirstRipe();
            trial.nextDay();
        }
        if (what == 0) {
            return trial.had - state.now.had;
        }
        return what == 1 ? green : Integer.bitCount(trial.hang);
    }

    public boolean mark(int mark, boolean back) {
        if (mark < 0 || mark >= marks.length) {
            return false;
        }
        State kept = marks[mark];
        if (kept == null || back && (laid >> mark & 1) == 0) {
            return false;
        }
        if (back) {
            state.copy(kept);
            undoable = 0;
        } else {
            kept.copy(state);
            laid |= 1 << mark;
        }
        return true;
    }

    public int count(int what) {
        switch (what) {
            case 0:
                return told.apples.size();
            case 1:
                return told.sounds.size();
            case 2:
                return told.people.size();
            case 3:
                return told.strangers.size();
            case 4:
                return told.pages.size();
            case 5:
                return told.banns.size();
            case 6:
                return Integer.bitCount(state.now.hang);
            case 7:
                return state.now.day;
            case 8:
                return state.now.had;
            case 9:
                return state.lines.size();
            case 10:
                return Integer.bitCount(state.seen);
            case 11:
                return state.tellings.size();
            case 12:
                return undoable;
            case 13:
                return reader.tape.length;
            case 14:
                return state.now.picked ? 1 : 0;
            default:
                return NONE;
        }
    }

    /** The oldest row is used again for the newest one, so that undoing makes no objects. */
    private void keepForUndo() {
        if (undoable >= earlier.length) {
            Standing oldest = earlier[0];
            for (int i = 1; i < earlier.length; i++) {
                earlier[i - 1] = earlier[i];
            }
            earlier[earlier.length - 1] = oldest;
            undoable = earlier.length - 1;
        }
        Standing kept = undoable >= 0 && undoable < earlier.length ? earlier[undoable] : null;
        if (kept != null) {
            kept.copy(state.now);
            undoable++;
        }
    }

    /** What falls by a line of the days on the trial; NONE if the line can't be. */
    private int live(int line) {
        int kind = state.lines.at(line, 0);
        int who = state.lines.at(line, 1);
        if (kind == Reader.CALLED) {
            int sound = state.lines.at(line, 2);
            if (!told.canSay(who, sound)) {
                return NONE;
            }
            return trial.cry(told, told.laneOf(who), told.loudOf(who), sound);
        }
        if (kind == Reader.PICKED) {
            if (!trial.canTake(who)) {
                return NONE;
            }
            trial.take(told, who);
            return 0;
        }
        trial.nextDay();
        return 0;
    }

    /** Whether the call can have been the one that was heard; if so what falls by it is tallied. */
    private boolean wasHeard(int person, int sound) {
        if (!told.canSay(person, sound)) {
            return false;
        }
        int fallen = state.now.fallers(told, told.laneOf(person), told.loudOf(person), sound);
        if ((fallen & state.seen) != state.lying) {
            return false;
        }
        for (int i = 0; i < tally.length; i++) {
            tally[i] += fallen >> i & 1;
        }
        return true;
    }

    private int evenest(int many) {
        int unknown = state.now.hang & ~state.seen;
        int best = NONE;
        int most = 0;
        for (int i = 0; i < tally.length; i++) {
            int lesser = Math.min(tally[i], many - tally[i]);
            if ((unknown >> i & 1) != 0 && lesser > most) {
                best = i;
                most = lesser;
            }
        }
        return best;
    }

    private boolean fits(int most, int least) {
        for (int i = 0; i < state.tellings.size(); i++) {
            boolean near = state.tellings.at(i, 0) <= most || state.tellings.at(i, 1) >= least;
            if (near != (state.tellings.at(i, 2) == 1)) {
                return false;
            }
        }
        return true;
    }

    private int lossOf(Standing standing, int apple, int days) {
        if (!standing.hangs(apple) || told.isDeaf(apple)) {
            return 0;
        }
        return told.apples.at(apple, Told.WORTH) * (1000000 - spared(standing, apple, days)) / 1000;
    }

    /** The chance in millionths that no stranger calls the apple. */
    private int spared(Standing standing, int apple, int days) {
        int callers = 0;
        for (int i = 0; i < told.strangers.size(); i++) {
            if (standing.isMeant(told, apple, told.strangers.at(i, 0)) && callers < absent.length) {
                absent[callers] = 10 - told.strangers.at(i, 1);
                callers++;
            }
        }
        int chance = 1000000;
        for (int day = 0; day < days; day++) {
            for (int i = 0; i < callers && i < absent.length; i++) {
                chance = chance * absent[i] / 10;
            }
        }
        return chance;
    }

    private static boolean isVoice(int lane, int loud) {
        return lane >= 0 && lane <= 11 && loud >= 0 && loud <= 6;
    }

    private int stolen(int page, int lane, int loud) {
        trial.copy(state.now);
        int fallen = 0;
        for (int i = 0; i < told.pages.at(page, 0); i++) {
            int apple = told.pages.at(page, 1 + i);
            fallen |= trial.cry(told, lane, loud, told.apples.at(apple, Told.SOUND));
        }
        return told.worthOf(fallen);
    }

    /** An order is a code of two bits for each bann, the first one read in the highest: so codes rise as orders do. */
    private static int bannAt(int code, int many, int place) {
        return place >= 0 && place < many ? code >> 2 * (many - 1 - place) & 3 : NONE;
    }

    private static boolean isOrder(int code, int many) {
        int read = 0;
        for (int i = 0; i < many; i++) {
            read |= 1 << bannAt(code, many, i);
        }
        return read == (1 << many) - 1;
    }

    private int lostByBanns(int code, int lane, int loud) {
        int many = told.banns.size();
        trial.copy(state.now);
        for (int i = 0; i < many; i++) {
            int bann = bannAt(code, many, i);
            trial.day = state.now.day + 7 * i;
            trial.cry(told, lane, loud, told.banns.at(bann, 0));
            trial.cry(told, lane, loud, told.banns.at(bann, 1));
        }
        return trial.had - state.now.had;
    }

    private int drawStrangers() {
        int fallen = 0;
        for (int i = 0; i < told.strangers.size(); i++) {
            if (draws.below(10) < told.strangers.at(i, 1)) {
                int lane = draws.below(12);
                fallen |= trial.cry(told, lane, 3, told.strangers.at(i, 0));
            }
        }
        return fallen;
    }

    private int drawPerson() {
        if (told.people.size() == 0 || told.sounds.size() == 0) {
            return 0;
        }
        int person = draws.below(told.people.size());
        int sound = draws.below(told.sounds.size());
        if (!told.canSay(person, sound)) {
            return 0;
        }
        return trial.cry(told, told.laneOf(person), told.loudOf(person), sound);
    }

    private void pickFirstRipe() {
        int ripe = trial.hang & ~told.unripe(trial.day);
        if (ripe != 0 && !trial.picked) {
            trial.take(told, Integer.numberOfTrailingZeros(ripe));
        }
    }

    /** What the signs on the tape can be read as. */
    private enum Token {
        END(""), STRANGE(""), NUMBER(""), NAME(""),
        OPEN("("), CLOSE(")"), STOP(";"), NOT("not"),
        AND("and", 1), OR("or", 1), LESS("<", 2), EQUAL("=", 2), PLUS("+", 3), MINUS("-", 3), TIMES("*", 4),
        APPLE("apple"), AT("at"), RIPE("ripe"), WORTH("worth"), TWIN("twin"), OTHER("other"),
        PERSON("person"), LANE("lane"), LOUD("loud"), STRANGER("stranger"), PAGE("page"), BANN("bann"),
        NEAR("near"), VALUE("value"), CALL("call"), PICK("pick"), DAY("day"),
        PLAIN("plain"), ALIAS("alias"), WELSH("welsh"), DEAF("deaf"),
        EDITS("edits", true, 0), START("start", true, 1), RHYME("rhyme", true, 2), SIZE("size", true, 3),
        BASE("base", false, 0), AGE("age", false, 1);

        private static final Token[] ALL = values();

        private final String text;
        private final long letters;
        /** How fast it binds its two sides; 0 if it has none. */
        private final int strength;
        /** Of a fact: its place among the facts of its law; NONE of all else. */
        private final int fact;
        private final boolean ofNear;

        Token(String text) {
            this(text, 0, NONE, false);
        }

        Token(String text, int strength) {
            this(text, strength, NONE, false);
        }

        Token(String text, boolean ofNear, int fact) {
            this(text, 0, fact, ofNear);
        }

        Token(String text, int strength, int fact, boolean ofNear) {
            this.text = text;
            this.strength = strength;
            this.fact = fact;
            this.ofNear = ofNear;
            long packed = 0;
            for (int i = text.length() - 1; i >= 0; i--) {
                packed = Names.packed(packed, text.charAt(i));
            }
            this.letters = packed;
        }

        private static Token ofSign(int sign) {
            for (int i = 0; i < ALL.length; i++) {
                if (ALL[i].text.length() == 1 && ALL[i].text.charAt(0) == sign) {
                    return ALL[i];
                }
            }
            return STRANGE;
        }

        private static Token ofLetters(long letters) {
            for (int i = 0; i < ALL.length; i++) {
                if (ALL[i].letters == letters && letters != 0) {
                    return ALL[i];
                }
            }
            return NAME;
        }

        /** The facts are not among the words that a name must not be. */
        private boolean isName() {
            return this == NAME || fact != NONE;
        }

        private boolean isFactOf(boolean near) {
            return fact != NONE && ofNear == near;
        }

        private boolean isSort() {
            return this == PLAIN || this == ALIAS || this == WELSH || this == DEAF;
        }
    }

    /** The signs that were fed, and the token that the reading has come to. */
    private static final class Tape {
        private static final int MOST = 1000;
        private static final int LONGEST_WORD = 8;
        private static final int LONGEST_NUMBER = 4;

        private final char[] signs = new char[MOST];
        private int length;
        private int at;
        private int place;
        private int number;
        private long letters;
        private Token token = Token.END;
        /** Once there is one, no token is read any more. */
        private int fault;

        private void put(long eight) {
            for (int shift = 56; shift >= 0; shift -= 8) {
                int sign = (int) (eight >> shift & 255);
                boolean fits = sign == 10 || sign >= 32 && sign <= 126;
                if (fits && length < signs.length) {
                    signs[length] = (char) sign;
                    length++;
                }
            }
        }

        private void open() {
            at = 0;
            fault = 0;
            step();
        }

        private void wrong(int kind) {
            if (fault == 0) {
                fault = kind + 16 * place;
            }
        }

        private void clear() {
            length = 0;
        }

        private void step() {
            if (fault != 0) {
                return;
            }
            while (at < length && (signAt(at) == 10 || signAt(at) == 32)) {
                at++;
            }
            place = at;
            number = 0;
            letters = 0;
            if (at >= length) {
                token = Token.END;
            } else if (isLetter(signAt(at))) {
                readWord();
            } else if (isDigit(signAt(at))) {
                readNumber();
            } else {
                token = Token.ofSign(signAt(at));
                at++;
            }
        }

        private void readWord() {
            while (at < length && isLetter(signAt(at))) {
                at++;
            }
            if (at - place > LONGEST_WORD) {
                token = Token.STRANGE;
                return;
            }
            for (int i = at - 1; i >= place; i--) {
                letters = Names.packed(letters, signAt(i));
            }
            token = Token.ofLetters(letters);
        }

        private void readNumber() {
            while (at < length && isDigit(signAt(at))) {
                at++;
            }
            if (at - place > LONGEST_NUMBER) {
                token = Token.STRANGE;
                return;
            }
            for (int i = place; i < at; i++) {
                number = number * 10 + signAt(i) - '0';
            }
            token = Token.NUMBER;
        }

        /** The sign at a place; 0, that no tape holds, beyond the end. */
        private int signAt(int i) {
            return i >= 0 && i < length && i < signs.length ? signs[i] : 0;
        }

        private static boolean isLetter(int sign) {
            return sign >= 'a' && sign <= 'z';
        }

        private static boolean isDigit(int sign) {
            return sign >= '0' && sign <= '9';
        }
    }

    /** Words of at most eight letters, each kept in one long: five bits a letter, the first one lowest. */
    private static final class Names {
        private static final int BITS = 5;
        private static final int LETTER = 31;

        private final long[] words;
        private final int[] row = new int[Tape.LONGEST_WORD + 1];
        private int many;

        private Names(int most) {
            words = new long[most > 0 ? most : 0];
        }

        private static long packed(long behind, int sign) {
            return behind << BITS | (sign >= 'a' && sign <= 'z' ? sign - 'a' + 1 : 0);
        }

        private void clear() {
            many = 0;
        }

        private int size() {
            return many;
        }

        private long at(int i) {
            return i >= 0 && i < many && i < words.length ? words[i] : 0;
        }

        private void add(long word) {
            if (many < words.length) {
                words[many] = word;
                many++;
            }
        }

        private int find(long word) {
            for (int i = 0; i < many; i++) {
                if (at(i) == word) {
                    return i;
                }
            }
            return NONE;
        }

        private int letter(int i, int place) {
            return place >= 0 && place < Tape.LONGEST_WORD ? (int) (at(i) >> BITS * place & LETTER) : 0;
        }

        private int letters(int i) {
            long rest = at(i);
            int letters = 0;
            while (letters < Tape.LONGEST_WORD && rest != 0) {
                rest >>= BITS;
                letters++;
            }
            return letters;
        }

        private boolean holds(int i, int letter) {
            long rest = at(i);
            for (int place = 0; place < Tape.LONGEST_WORD && letter != 0; place++) {
                if ((rest & LETTER) == letter) {
                    return true;
                }
                rest >>= BITS;
            }
            return false;
        }

        private int start(int a, int b) {
            long first = at(a);
            long second = at(b);
            int same = 0;
            while (same < Tape.LONGEST_WORD && (first & LETTER) != 0 && (first & LETTER) == (second & LETTER)) {
                first >>= BITS;
                second >>= BITS;
                same++;
            }
            return same;
        }

        private int rhyme(int a, int b) {
            int last = letters(a) - 1;
            int shift = letters(b) - 1 - last;
            int same = 0;
            while (same <= last && letter(a, last - same) == letter(b, last - same + shift)) {
                same++;
            }
            return same;
        }

        /** The row holds the edits from the letters of a so far to each beginning of b. */
        private int edits(int a, int b) {
            int wide = letters(b);
            int high = letters(a);
            for (int j = 0; j < row.length; j++) {
                row[j] = j;
            }
            for (int i = 0; i < high; i++) {
                int letter = letter(a, i);
                long rest = at(b);
                int corner = i;
                row[0] = i + 1;
                for (int j = 1; j <= wide && j < row.length; j++) {
                    int changed = corner + ((rest & LETTER) == letter ? 0 : 1);
                    corner = row[j];
                    row[j] = Math.min(changed, 1 + Math.min(row[j], row[j - 1]));
                    rest >>= BITS;
                }
            }
            return wide < row.length ? row[wide] : 0;
        }
    }

    /** Rows of numbers, at most so many, told one behind another. */
    private static final class Table {
        private final int most;
        private final int wide;
        private final int[] cells;
        private int rows;

        private Table(int most, int wide) {
            this.most = most > 0 && wide > 0 ? most : 0;
            this.wide = most > 0 && wide > 0 ? wide : 0;
            this.cells = new int[this.most * this.wide];
        }

        private void clear() {
            rows = 0;
        }

        private int size() {
            return rows;
        }

        private boolean full() {
            return rows >= most;
        }

        private boolean holds(int row, int column) {
            return row >= 0 && row < rows && row < most && column >= 0 && column < wide;
        }

        private int at(int row, int column) {
            int i = holds(row, column) ? row * wide + column : NONE;
            return i >= 0 && i < cells.length ? cells[i] : NONE;
        }

        private void put(int row, int column, int number) {
            int i = holds(row, column) ? row * wide + column : NONE;
            if (i >= 0 && i < cells.length) {
                cells[i] = number;
            }
        }

        /** A new row of zeros; NONE if there is no place for it. */
        private int add() {
            if (full()) {
                return NONE;
            }
            rows++;
            for (int column = 0; column < wide; column++) {
                put(rows - 1, column, 0);
            }
            return rows - 1;
        }

        private void copy(Table from) {
            if (from == null || from.cells.length != cells.length) {
                return;
            }
            System.arraycopy(from.cells, 0, cells, 0, cells.length);
            rows = from.rows;
        }
    }

    /** A law told as an E, kept with each sign behind the two sides that it binds. */
    private static final class Formula {
        private static final int DEEPEST = 5;
        private static final int COMPARED = 2;

        private final Token[] steps = new Token[Tape.MOST];
        private final int[] numbers = new int[Tape.MOST];
        /** Signs that wait for their right side while the law is read. */
        private final Token[] waiting = new Token[64];
        private final int[] stack = new int[64];
        private final int[] facts = new int[4];
        private int length;
        private int waits;

        private void clear() {
            length = 0;
            waits = 0;
        }

        private void add(Token step, int number) {
            if (length < steps.length && length < numbers.length) {
                steps[length] = step;
                numbers[length] = number;
                length++;
            }
        }

        /** Reads an E up to the token that ends it: 0, or the kind of the fault of the token that stands there. */
        private int read(Tape tape, boolean ofNear) {
            clear();
            boolean wanting = true;
            int parens = 0;
            int depth = 0;
            for (int i = 0; i <= Tape.MOST; i++) {
                Token token = tape.token;
                boolean opens = token == Token.NOT || token == Token.OPEN;
                if (wanting) {
                    if (!opens && token != Token.NUMBER && !token.isFactOf(ofNear)) {
                        return 1;
                    }
                    if (depth >= DEEPEST) {
                        return 5;
                    }
                }
                if (wanting && opens) {
                    hold(token);
                    depth++;
                    parens += token == Token.OPEN ? 1 : 0;
                } else if (wanting) {
                    add(token, tape.number);
                    depth -= releaseNots();
                    wanting = false;
                } else if (token.strength > 0) {
                    if (!releaseBefore(token)) {
                        return 1;
                    }
                    hold(token);
                    wanting = true;
                } else if (token == Token.CLOSE && parens > 0) {
                    release(1);
                    drop();
                    parens--;
                    depth -= 1 + releaseNots();
                } else {
                    release(1);
                    return parens > 0 ? 1 : 0;
                }
                tape.step();
            }
            return 1;
        }

        private Token last() {
            return waits > 0 && waits <= waiting.length ? waiting[waits - 1] : null;
        }

        private void hold(Token token) {
            if (waits < waiting.length) {
                waiting[waits] = token;
                waits++;
            }
        }

        private void drop() {
            if (waits > 0) {
                waits--;
            }
        }

        /** Lets go the signs that bind as fast or faster. */
        private void release(int strength) {
            for (int i = 0; i < waiting.length; i++) {
                Token last = last();
                if (last == null || last.strength < strength || last.strength == 0) {
                    return;
                }
                add(last, 0);
                drop();
            }
        }

        /** False if the sign is a second comparison of one test. */
        private boolean releaseBefore(Token token) {
            boolean compares = token.strength == COMPARED;
            release(compares ? COMPARED + 1 : token.strength);
            Token last = last();
            return !compares || last == null || last.strength != COMPARED;
        }

        /** A not ends with the part behind it: how many end here. */
        private int releaseNots() {
            int ended = 0;
            for (int i = 0; i < waiting.length && last() == Token.NOT; i++) {
                add(Token.NOT, 0);
                drop();
                ended++;
            }
            return ended;
        }

        private int answer(int first, int second, int third, int fourth) {
            facts[0] = first;
            facts[1] = second;
            facts[2] = third;
            facts[3] = fourth;
            int top = 0;
            for (int i = 0; i < length && i < steps.length && i < numbers.length; i++) {
                Token step = steps[i];
                boolean tops = top > 0 && top <= stack.length;
                if (step == Token.NOT && tops) {
                    stack[top - 1] = stack[top - 1] == 0 ? 1 : 0;
                } else if (step != null && step.strength > 0 && tops && top > 1) {
                    top--;
                    stack[top - 1] = joined(step, stack[top - 1], stack[top]);
                } else if (step != null && top < stack.length) {
                    boolean isFact = step.fact >= 0 && step.fact < facts.length;
                    stack[top] = isFact ? facts[step.fact] : numbers[i];
                    top++;
                }
            }
            return top > 0 ? stack[0] : 0;
        }

        private static int joined(Token sign, int left, int right) {
            switch (sign) {
                case PLUS:
                    return left + right;
                case MINUS:
                    return left - right;
                case TIMES:
                    return left * right;
                case LESS:
                    return left < right ? 1 : 0;
                case EQUAL:
                    return left == right ? 1 : 0;
                case AND:
                    return left != 0 && right != 0 ? 1 : 0;
                case OR:
                    return left != 0 || right != 0 ? 1 : 0;
                default:
                    return 0;
            }
        }
    }

    /** An orchard as it was told. */
    private static final class Told {
        private static final int APPLES = 10;
        private static final int OTHERS = 6;
        private static final int SOUNDS = APPLES + OTHERS;
        private static final int PEOPLE = 5;
        private static final int STRANGERS = 6;
        private static final int ROWS = 12;

        private static final int SORT = 0;
        private static final int ALIAS = 1;
        private static final int WELSH = 2;
        private static final int DEAF = 3;
        private static final int ACROSS = 1;
        private static final int ROW = 2;
        private static final int RIPE = 3;
        private static final int WORTH = 4;
        private static final int SOUND = 5;
        private static final int TWIN = 6;

        private final Names sounds = new Names(SOUNDS);
        private final Names persons = new Names(PEOPLE);
        private final Table apples = new Table(APPLES, 7);
        /** Lane, how loud, the letter that is not said (0: none). */
        private final Table people = new Table(PEOPLE, 3);
        /** The SOUND, of ten. */
        private final Table strangers = new Table(STRANGERS, 2);
        /** How many apples, then these. */
        private final Table pages = new Table(4, 1 + APPLES);
        private final Table banns = new Table(4, 2);
        private final Formula near = new Formula();
        private final Formula value = new Formula();
        /** Of each SOUND called: those that it is near to, as bits. */
        private final int[] nearTo = new int[SOUNDS];
        /** Of each row: the apples that hang there, as bits. */
        private final int[] inRow = new int[ROWS];
        /** Of each apple: its twin, as a bit. */
        private final int[] twins = new int[APPLES];
        private boolean nearTold;
        private boolean valueTold;
        private int alias;
        private int welsh;
        private int deaf;

        private void clear() {
            sounds.clear();
            persons.clear();
            apples.clear();
            people.clear();
            strangers.clear();
            pages.clear();
            banns.clear();
            nearTold = false;
            valueTold = false;
        }

        /** Works out what stays as it is until another orchard is told. */
        private void settle() {
            if (!nearTold) {
                near.clear();
                near.add(Token.EDITS, 0);
                near.add(Token.NUMBER, 0);
                near.add(Token.EQUAL, 0);
            }
            if (!valueTold) {
                value.clear();
                value.add(Token.BASE, 0);
                value.add(Token.AGE, 0);
                value.add(Token.NUMBER, 0);
                value.add(Token.LESS, 0);
                value.add(Token.NOT, 0);
                value.add(Token.TIMES, 0);
            }
            for (int called = 0; called < nearTo.length; called++) {
                nearTo[called] = nearOnes(called);
            }
            alias = having(SORT, ALIAS);
            welsh = having(SORT, WELSH);
            deaf = having(SORT, DEAF);
            for (int row = 0; row < inRow.length; row++) {
                inRow[row] = having(ROW, row);
            }
            for (int apple = 0; apple < twins.length; apple++) {
                twins[apple] = having(TWIN, apple);
            }
        }

        private int nearOnes(int called) {
            int ones = 0;
            for (int sound = 0; sound < sounds.size() && called < sounds.size(); sound++) {
                int answer = near.answer(sounds.edits(called, sound), sounds.start(called, sound),
                        sounds.rhyme(called, sound), sounds.letters(called));
                ones |= answer != 0 ? 1 << sound : 0;
            }
            return ones;
        }

        /** The apples of which so much is told, as bits. */
        private int having(int column, int number) {
            int ones = 0;
            for (int apple = 0; apple < apples.size(); apple++) {
                ones |= apples.at(apple, column) == number ? 1 << apple : 0;
            }
            return ones;
        }

        private boolean hasApple(int apple) {
            return apple >= 0 && apple < apples.size();
        }

        private boolean hasSound(int sound) {
            return sound >= 0 && sound < sounds.size();
        }

        private boolean hasPerson(int person) {
            return person >= 0 && person < people.size();
        }

        private boolean isDeaf(int apple) {
            return hasApple(apple) && (deaf >> apple & 1) != 0;
        }

        private int nearTo(int called) {
            return called >= 0 && called < nearTo.length ? nearTo[called] : 0;
        }

        private boolean canSay(int person, int sound) {
            return hasPerson(person) && hasSound(sound) && !sounds.holds(sound, people.at(person, 2));
        }

        private int laneOf(int person) {
            return people.at(person, 0);
        }

        private int loudOf(int person) {
            return people.at(person, 1);
        }

        private int appleOfSound(int sound) {
            for (int apple = 0; apple < apples.size(); apple++) {
                if (apples.at(apple, SOUND) == sound) {
                    return apple;
                }
            }
            return NONE;
        }

        private int valueOf(int apple, int day) {
            int age = day - apples.at(apple, RIPE);
            return Math.max(0, Math.min(999, value.answer(apples.at(apple, WORTH), age, 0, 0)));
        }

        private int valuesOf(int ones, int day) {
            int sum = 0;
            for (int apple = 0; apple < apples.size(); apple++) {
                sum += (ones >> apple & 1) != 0 ? valueOf(apple, day) : 0;
            }
            return sum;
        }

        private int worthOf(int ones) {
            int sum = 0;
            for (int apple = 0; apple < apples.size(); apple++) {
                sum += (ones >> apple & 1) != 0 ? apples.at(apple, WORTH) : 0;
            }
            return sum;
        }

        private int unripe(int day) {
            int ones = 0;
            for (int apple = 0; apple < apples.size(); apple++) {
                ones |= day < apples.at(apple, RIPE) ? 1 << apple : 0;
            }
            return ones;
        }

        /** The apples no more than so many rows from the lane. */
        private int within(int lane, int rows) {
            int ones = 0;
            for (int row = Math.max(0, lane - rows); row <= lane + rows && row < inRow.length; row++) {
                ones |= inRow[row];
            }
            return ones;
        }

        /** What falls of the hanging ones, when some hear it wholly and some hear it at all. */
        private int felled(int hang, int loose, int whole, int heard) {
            int fallen = (whole & ~welsh | heard & loose) & hang;
            int rest = fallen;
            int pairs = fallen;
            for (int apple = 0; apple < twins.length && rest != 0; apple++) {
                pairs |= (rest & 1) != 0 ? twins[apple] : 0;
                rest >>= 1;
            }
            return pairs & hang;
        }
    }

    /** What hangs on a day, by what name, and what was had so far. */
    private static final class Standing {
        private final int[] sounds = new int[Told.APPLES];
        private int hang;
        private int loose;
        private int day;
        private int had;
        private boolean picked;

        private void begin(Told told) {
            hang = (1 << told.apples.size()) - 1;
            loose = 0;
            day = 0;
            had = 0;
            picked = false;
            for (int apple = 0; apple < sounds.length; apple++) {
                sounds[apple] = told.apples.at(apple, Told.SOUND);
            }
        }

        private void copy(Standing from) {
            if (from == null) {
                return;
            }
            hang = from.hang;
            loose = from.loose;
            day = from.day;
            had = from.had;
            picked = from.picked;
            for (int apple = 0; apple < sounds.length; apple++) {
                sounds[apple] = from.soundOf(apple);
            }
        }

        private boolean hangs(int apple) {
            return apple >= 0 && apple < sounds.length && (hang >> apple & 1) != 0;
        }

        private boolean isLoose(int apple) {
            return hangs(apple) && (loose >> apple & 1) != 0;
        }

        private int soundOf(int apple) {
            return apple >= 0 && apple < sounds.length ? sounds[apple] : NONE;
        }

        private void name(int apple, int sound) {
            if (apple >= 0 && apple < sounds.length) {
                sounds[apple] = sound;
            }
        }

        private boolean hasOther(int apple, int sound) {
            for (int other = 0; other < sounds.length; other++) {
                if (other != apple && hangs(other) && sounds[other] == sound) {
                    return true;
                }
            }
            return false;
        }

        /** Whether the SOUND called is near to the apple's; an alias wants its very own. */
        private boolean isMeant(Told told, int apple, int called) {
            int sound = soundOf(apple);
            if ((told.alias >> apple & 1) != 0) {
                return sound == called;
            }
            return sound >= 0 && (told.nearTo(called) >> sound & 1) != 0;
        }

        private int meant(Told told, int called) {
            int able = hang & ~told.deaf;
            int ones = 0;
            for (int apple = 0; apple < sounds.length && able >> apple != 0; apple++) {
                ones |= (able >> apple & 1) != 0 && isMeant(told, apple, called) ? 1 << apple : 0;
            }
            return ones;
        }

        private int fallers(Told told, int lane, int loud, int sound) {
            int meant = meant(told, sound);
            return told.felled(hang, loose, meant & told.within(lane, loud), meant & told.within(lane, 2 * loud));
        }

        /** Calls the SOUND in the lane: what falls, as bits. */
        private int cry(Told told, int lane, int loud, int sound) {
            int meant = meant(told, sound);
            int heard = meant & told.within(lane, 2 * loud);
            int fallen = told.felled(hang, loose, meant & told.within(lane, loud), heard);
            had += told.valuesOf(fallen, day);
            hang &= ~fallen;
            loose = (loose | heard) & hang;
            return fallen;
        }

        private boolean canTake(int apple) {
            return hangs(apple) && !picked;
        }

        /** Picks the apple: what it is worth. */
        private int take(Told told, int apple) {
            if (!canTake(apple)) {
                return 0;
            }
            int value = told.valueOf(apple, day);
            had += value;
            hang &= ~(1 << apple);
            loose &= hang;
            picked = true;
            return value;
        }

        private void nextDay() {
            day++;
            picked = false;
        }
    }

    /** What a mark holds. */
    private static final class State {
        private final Standing now = new Standing();
        /** Of a line: its kind, who, and what is called. */
        private final Table lines = new Table(Reader.LINES, 3);
        /** The edits and the rhyme of the two SOUNDS, 1 if the one was near to the other. */
        private final Table tellings = new Table(12, 3);
        /** The apples of which it is told whether they lie, and those that do. */
        private int seen;
        private int lying;

        private void begin(Told told) {
            now.begin(told);
            lines.clear();
            tellings.clear();
            seen = 0;
            lying = 0;
        }

        private void copy(State from) {
            if (from == null) {
                return;
            }
            now.copy(from.now);
            lines.copy(from.lines);
            tellings.copy(from.tellings);
            seen = from.seen;
            lying = from.lying;
        }
    }

    /** Reads the tape as an orchard or as days, up to the first fault. */
    private static final class Reader {
        private static final int LINES = 40;
        private static final int NEXT_DAY = 0;
        private static final int CALLED = 1;
        private static final int PICKED = 2;

        private final Tape tape = new Tape();
        private final Table lines = new Table(LINES, 3);

        private int readOrchard(Told draft) {
            draft.clear();
            tape.open();
            for (int i = 0; i <= Tape.MOST && goesOn(); i++) {
                switch (tape.token) {
                    case APPLE:
                        readApple(draft);
                        break;
                    case TWIN:
                        readTwin(draft);
                        break;
                    case OTHER:
                        readOther(draft);
                        break;
                    case PERSON:
                        readPerson(draft);
                        break;
                    case STRANGER:
                        readStranger(draft);
                        break;
                    case PAGE:
                        readPage(draft);
                        break;
                    case BANN:
                        readBann(draft);
                        break;
                    case NEAR:
                        readNear(draft);
                        break;
                    case VALUE:
                        readValue(draft);
                        break;
                    default:
                        tape.wrong(1);
                        break;
                }
            }
            if (tape.fault == 0) {
                draft.settle();
            }
            tape.clear();
            return tape.fault;
        }

        private int readDays(Told told) {
            lines.clear();
            tape.open();
            for (int i = 0; i <= Tape.MOST && goesOn(); i++) {
                readLine(told);
            }
            tape.clear();
            return tape.fault;
        }

        private boolean goesOn() {
            return tape.fault == 0 && tape.token != Token.END;
        }

        private void take(Token token) {
            if (tape.token != token) {
                tape.wrong(1);
            }
            tape.step();
        }

        private int number(int most) {
            int number = tape.number;
            if (tape.token != Token.NUMBER) {
                tape.wrong(1);
            } else if (number > most) {
                tape.wrong(4);
            }
            tape.step();
            return number;
        }

        /** The word of a line of which there may be only so many. */
        private void open(boolean full) {
            if (full) {
                tape.wrong(5);
            }
            tape.step();
        }

        /** The word of a law, that may be told once. */
        private void openLaw(boolean twice) {
            if (twice) {
                tape.wrong(3);
            }
            tape.step();
        }

        private boolean isName() {
            if (!tape.token.isName()) {
                tape.wrong(1);
            }
            return tape.fault == 0;
        }

        private long newName(Told told) {
            long letters = tape.letters;
            if (isName() && (told.sounds.find(letters) != NONE || told.persons.find(letters) != NONE)) {
                tape.wrong(3);
            }
            tape.step();
            return letters;
        }

        /** The SOUND that stands here; the reading stays there, since it may be wrong otherwise too. */
        private int soundHere(Told told) {
            int sound = isName() ? told.sounds.find(tape.letters) : NONE;
            if (sound == NONE) {
                tape.wrong(2);
            }
            return sound;
        }

        private int appleHere(Told told) {
            int apple = isName() ? told.appleOfSound(told.sounds.find(tape.letters)) : NONE;
            if (apple == NONE) {
                tape.wrong(2);
            }
            return apple;
        }

        private int personHere(Told told) {
            int person = isName() ? told.persons.find(tape.letters) : NONE;
            if (person == NONE) {
                tape.wrong(2);
            }
            return person;
        }

        private void readApple(Told told) {
            open(told.apples.full());
            long name = newName(told);
            int sort = sortHere();
            take(Token.AT);
            int across = number(11);
            int row = number(11);
            take(Token.RIPE);
            int ripe = number(60);
            take(Token.WORTH);
            int worth = number(99);
            take(Token.STOP);
            if (tape.fault == 0) {
                int apple = told.apples.add();
                told.apples.put(apple, Told.SORT, sort);
                told.apples.put(apple, Told.ACROSS, across);
                told.apples.put(apple, Told.ROW, row);
                told.apples.put(apple, Told.RIPE, ripe);
                told.apples.put(apple, Told.WORTH, worth);
                told.apples.put(apple, Told.SOUND, told.sounds.size());
                told.apples.put(apple, Told.TWIN, NONE);
                told.sounds.add(name);
            }
        }

        private int sortHere() {
            Token sort = tape.token;
            if (!sort.isSort()) {
                tape.wrong(1);
            }
            tape.step();
            if (sort == Token.ALIAS) {
                return Told.ALIAS;
            }
            if (sort == Token.WELSH) {
                return Told.WELSH;
            }
            return sort == Token.DEAF ? Told.DEAF : 0;
        }

        private void readTwin(Told told) {
            tape.step();
            int first = untwinned(told, NONE);
            int second = untwinned(told, first);
            take(Token.STOP);
            if (tape.fault == 0) {
                told.apples.put(first, Told.TWIN, second);
                told.apples.put(second, Told.TWIN, first);
            }
        }

        private int untwinned(Told told, int first) {
            int apple = appleHere(told);
            if (apple == first || told.apples.at(apple, Told.TWIN) != NONE) {
                tape.wrong(3);
            }
            tape.step();
            return apple;
        }

        private void readOther(Told told) {
            open(told.sounds.size() - told.apples.size() >= Told.OTHERS);
            long name = newName(told);
            take(Token.STOP);
            if (tape.fault == 0) {
                told.sounds.add(name);
            }
        }

        private void readPerson(Told told) {
            open(told.people.full());
            long name = newName(told);
            take(Token.LANE);
            int lane = number(11);
            take(Token.LOUD);
            int loud = number(6);
            int mute = 0;
            if (tape.token == Token.NOT) {
                tape.step();
                mute = told.sounds.letter(soundHere(told), 0);
                tape.step();
            }
            take(Token.STOP);
            if (tape.fault == 0) {
                int person = told.people.add();
                told.people.put(person, 0, lane);
                told.people.put(person, 1, loud);
                told.people.put(person, 2, mute);
                told.persons.add(name);
            }
        }

        private void readStranger(Told told) {
            open(told.strangers.full());
            int sound = soundHere(told);
            for (int i = 0; i < told.strangers.size(); i++) {
                if (told.strangers.at(i, 0) == sound) {
                    tape.wrong(3);
                }
            }
            tape.step();
            int chance = number(10);
            take(Token.STOP);
            if (tape.fault == 0) {
                int stranger = told.strangers.add();
                told.strangers.put(stranger, 0, sound);
                told.strangers.put(stranger, 1, chance);
            }
        }

        private void readPage(Told told) {
            open(told.pages.full());
            int page = told.pages.add();
            int met = 0;
            for (int i = 1; i <= Told.APPLES + 1 && tape.fault == 0 && (i == 1 || tape.token != Token.STOP); i++) {
                int apple = appleHere(told);
                if (told.hasApple(apple) && (met >> apple & 1) != 0) {
                    tape.wrong(3);
                }
                met |= told.hasApple(apple) ? 1 << apple : 0;
                told.pages.put(page, 0, i);
                told.pages.put(page, i, apple);
                tape.step();
            }
            take(Token.STOP);
        }

        private void readBann(Told told) {
            open(told.banns.full());
            int first = soundHere(told);
            tape.step();
            int second = soundHere(told);
            if (first == second) {
                tape.wrong(3);
            }
            tape.step();
            take(Token.STOP);
            if (tape.fault == 0) {
                int bann = told.banns.add();
                told.banns.put(bann, 0, first);
                told.banns.put(bann, 1, second);
            }
        }

        private void readNear(Told told) {
            openLaw(told.nearTold);
            readLaw(told.near, true);
            told.nearTold = true;
        }

        private void readValue(Told told) {
            openLaw(told.valueTold);
            readLaw(told.value, false);
            told.valueTold = true;
        }

        private void readLaw(Formula law, boolean ofNear) {
            int kind = tape.fault == 0 ? law.read(tape, ofNear) : 0;
            if (kind != 0) {
                tape.wrong(kind);
            }
            take(Token.STOP);
        }

        private void readLine(Told told) {
            Token first = tape.token;
            if (first != Token.CALL && first != Token.PICK && first != Token.DAY) {
                tape.wrong(1);
                return;
            }
            open(lines.full());
            int kind = NEXT_DAY;
            int who = 0;
            int what = 0;
            if (first == Token.CALL) {
                kind = CALLED;
                who = personHere(told);
                tape.step();
                what = soundHere(told);
                tape.step();
            } else if (first == Token.PICK) {
                kind = PICKED;
                who = appleHere(told);
                tape.step();
            }
            take(Token.STOP);
            if (tape.fault == 0) {
                int line = lines.add();
                lines.put(line, 0, kind);
                lines.put(line, 1, who);
                lines.put(line, 2, what);
            }
        }
    }

    /** Looks for the calls by which the most is had, and for the fewest by which all falls. */
    private static final class Search {
        private static final int DAYS = 3;
        private static final int MOST_CALLS = Told.PEOPLE * Told.SOUNDS;
        private static final int FEWEST = 4;
        /** 3 to the power of the apples: each is down, hangs, or hangs loosely. */
        private static final int STANDINGS = 59049;
        private static final int WORDS = STANDINGS / 64 + 1;

        private final int[] whole = new int[MOST_CALLS];
        private final int[] heard = new int[MOST_CALLS];
        private final int[] names = new int[MOST_CALLS];
        private final int[] values = new int[DAYS * Told.APPLES];
        /** Of each day and apple: the most that it is worth then or later. */
        private final int[] ceilings = new int[DAYS * Told.APPLES];
        /** Of each set of apples: the sum of their digits in a standing in which they hang. */
        private final int[] thirds = new int[1 << Told.APPLES];
        /** The standings met so far, those just met, and those met by one call more: a bit for each. */
        private final long[] met = new long[WORDS];
        private long[] front = new long[WORDS];
        private long[] next = new long[WORDS];
        private int calls;
        private int days;
        private int most;
        private int first;

        private Search() {
            int digit = 1;
            for (int apple = 0; apple < Told.APPLES; apple++) {
                for (int ones = 0; ones < 1 << apple && ones + (1 << apple) < thirds.length; ones++) {
                    thirds[ones + (1 << apple)] = thirds[ones] + digit;
                }
                digit *= 3;
            }
        }

        /** Calls that are heard alike do alike: of these the first one stands for all. */
        private void gather(Told told, Standing now) {
            calls = 0;
            for (int person = 0; person < told.people.size(); person++) {
                int near = told.within(told.laneOf(person), told.loudOf(person));
                int far = told.within(told.laneOf(person), 2 * told.loudOf(person));
                for (int sound = 0; sound < told.sounds.size(); sound++) {
                    int meant = told.canSay(person, sound) ? now.meant(told, sound) : 0;
                    add(meant & near, meant & far, 16 * person + sound);
                }
            }
        }

        private void add(int wholly, int atAll, int name) {
            if (atAll == 0 || calls >= MOST_CALLS) {
                return;
            }
            for (int i = 0; i < calls; i++) {
                if (whole[i] == wholly && heard[i] == atAll) {
                    return;
                }
            }
            whole[calls] = wholly;
            heard[calls] = atAll;
            names[calls] = name;
            calls++;
        }

        private void harvest(Told told, Standing now, int many) {
            gather(told, now);
            days = Math.max(0, Math.min(DAYS, many));
            most = NONE;
            first = NONE;
            appraise(told, now.day);
            explore(told, 0, now.hang, now.loose, 0, NONE);
        }

        private void appraise(Told told, int today) {
            for (int day = days - 1; day >= 0; day--) {
                for (int apple = 0; apple < Told.APPLES; apple++) {
                    int i = day * Told.APPLES + apple;
                    int later = i + Told.APPLES;
                    int value = told.hasApple(apple) ? told.valueOf(apple, today + day) : 0;
                    int after = day + 1 < days && later < ceilings.length ? ceilings[later] : 0;
                    if (i < values.length && i < ceilings.length) {
                        values[i] = value;
                        ceilings[i] = Math.max(value, after);
                    }
                }
            }
        }

        private static int sum(int[] worths, int day, int ones) {
            int sum = 0;
            int rest = ones;
            for (int i = day * Told.APPLES; i >= 0 && i < worths.length && rest != 0; i++) {
                sum += (rest & 1) != 0 ? worths[i] : 0;
                rest >>= 1;
            }
            return sum;
        }

        /** Goes through the days that are left, no more than three deep; none is tried ahead of all calls. */
        private void explore(Told told, int day, int hang, int loose, int gained, int begun) {
            if (day >= days || day >= DAYS) {
                if (gained > most) {
                    most = gained;
                    first = begun;
                }
                return;
            }
            if (gained + sum(ceilings, day, hang) <= most) {
                return;
            }
            explore(told, day + 1, hang, loose, gained, begun);
            for (int i = 0; i < calls && i < MOST_CALLS; i++) {
                int fallen = told.felled(hang, loose, whole[i], heard[i]);
                int left = hang & ~fallen;
                int looser = (loose | heard[i]) & left;
                if (left != hang || looser != loose) {
                    int won = gained + sum(values, day, fallen);
                    explore(told, day + 1, left, looser, won, day == 0 ? names[i] : begun);
                }
            }
        }

        private int fewest(Told told, Standing now) {
            int goal = now.hang & ~told.deaf;
            if (goal == 0) {
                return 0;
            }
            gather(told, now);
            Arrays.fill(met, 0);
            Arrays.fill(next, 0);
            meet(goal, now.loose & goal);
            for (int many = 1; many <= FEWEST; many++) {
                long[] older = front;
                front = next;
                next = older;
                Arrays.fill(next, 0);
                if (spread(told)) {
                    return many;
                }
            }
            return NONE;
        }

        /** Whether one call more fells all of one of the standings in front; what else comes of them is next. */
        private boolean spread(Told told) {
            for (int word = 0; word < front.length; word++) {
                long rest = front[word];
                for (int bit = 0; bit < 64 && rest != 0; bit++) {
                    if ((rest & 1) != 0 && fellsAll(told, 64 * word + bit)) {
                        return true;
                    }
                    rest >>>= 1;
                }
            }
            return false;
        }

        private boolean fellsAll(Told told, int standing) {
            int loose = digits(standing, 2);
            int hang = loose | digits(standing, 1);
            for (int i = 0; i < calls && i < MOST_CALLS; i++) {
                int left = hang & ~told.felled(hang, loose, whole[i], heard[i]);
                if (left == 0) {
                    return true;
                }
                meet(left, (loose | heard[i]) & left);
            }
            return false;
        }

        private void meet(int hang, int loose) {
            if (hang < 0 || hang >= thirds.length || loose < 0 || loose >= thirds.length) {
                return;
            }
            int standing = thirds[hang] + thirds[loose];
            int word = standing / 64;
            long bit = 1L << standing % 64;
            if (word < met.length && word < next.length && (met[word] & bit) == 0) {
                met[word] |= bit;
                next[word] |= bit;
            }
        }

        /** The apples whose digit, by threes, is so. */
        private static int digits(int standing, int digit) {
            int ones = 0;
            int rest = standing;
            for (int apple = 0; apple < Told.APPLES; apple++) {
                ones |= rest % 3 == digit ? 1 << apple : 0;
                rest /= 3;
            }
            return ones;
        }
    }

    /** Numbers drawn one behind another from a seed. */
    private static final class Draws {
        private long now;

        private void begin(int seed) {
            now = seed;
        }

        private int below(int many) {
            now = (now * 1103515245L + 12345L) % 2147483648L;
            return many > 0 ? (int) (now / 65536 % many) : 0;
        }
    }
}
