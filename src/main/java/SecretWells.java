import java.util.Arrays;

/**
 * Wells that are deep by secrets which few know: a text tells of wells, men, secrets, ties and laws; days go by in
 * it, things are done by hand, and questions are asked about what is, what would be and what may be true.
 */
public final class SecretWells {
    public static final int NONE = -1;

    /** The answer where all that was named is there, but there is nothing to answer. */
    private static final int NOTHING = -2;
    /** The answer for a SECRET that RAIN leaves as it is. */
    private static final int LEFT = -3;

    private static final int MAX_BYTES = 2000;
    private static final int MAX_TOKENS = 400;
    private static final int MAX_WELLS = 4;
    private static final int MAX_MEN = 7;
    private static final int MAX_SECRETS = 8;
    private static final int MAX_TIES = 12;
    private static final int MAX_UNDO = 40;
    private static final int MAX_SLOTS = 3;
    private static final int MAX_NOTES = 20;
    private static final int MAX_RAIN = 4;
    private static final int MAX_AHEAD = 200;

    private final Tape tape = new Tape();
    private final Shape shape = new Shape(tape);
    private final Meaning meaning = new Meaning(tape);
    private final State now = new State();
    private final State trial = new State();
    private final Days daily = new Days();
    private final Rain cloud = new Rain();
    private final People people = new People();
    private final Notes notes = new Notes();
    private final Rows done = new Rows(MAX_UNDO);
    private final Rows slots = new Rows(MAX_SLOTS);
    private Text text = new Text();
    private Text spare = new Text();
    private int faultPlace = NONE;
    private int oldestDone = 0;
    private int doneSize = 0;
    private int heldSlots = 0;

    public SecretWells() {
        text.clear();
        now.begin(text);
    }

    // ---- the tape and its text

    public int feed(int a, int b, int c, int d, int e) {
        if (tape.length + 20 > MAX_BYTES) {
            return NONE;
        }
        tape.append(a);
        tape.append(b);
        tape.append(c);
        tape.append(d);
        tape.append(e);
        return tape.length;
    }

    public int back(int n) {
        if (n < 0 || n > tape.length) {
            return NONE;
        }
        tape.length -= n;
        return tape.length;
    }

    public int read() {
        tape.scan();
        tape.length = 0;
        int fault = shape.seek();
        faultPlace = shape.place;
        if (fault == 0) {
            fault = meaning.seek(spare);
            faultPlace = meaning.place;
        }
        if (fault == 0) {
            beginAnew();
        }
        return fault;
    }

    private void beginAnew() {
        Text old = text;
        text = spare;
        spare = old;
        now.begin(text);
        notes.size = 0;
        heldSlots = 0;
        forgetDone();
        changed();
    }

    public int place() {
        return faultPlace;
    }

    // ---- what is now

    public int well(int well, int what) {
        if (!isWell(well)) {
            return NONE;
        }
        switch (what) {
            case 0: return now.deep[well];
            case 1: return now.water[well];
            case 2: return now.whisperedInto(text, well);
            case 3: return now.holding[well];
            case 4: return now.drinkers[well];
            case 5: return daily.fillsNow(text, now, well);
            default: return NONE;
        }
    }

    public int man(int man, int what) {
        if (!isMan(man)) {
            return NONE;
        }
        switch (what) {
            case 0: return now.isAlive(man) ? 1 : 0;
            case 1: return now.home[man];
            case 2: return now.thirst[man];
            case 3: return now.knows[man];
            case 4: return now.isAlive(man) ? daily.drinksNow(text, now, man) : 0;
            default: return NONE;
        }
    }

    public int secret(int secret, int what) {
        if (!isSecret(secret)) {
            return NONE;
        }
        int knowers = now.knowers(text, secret);
        switch (what) {
            case 0: return knowers;
            case 1: return Integer.bitCount(knowers & now.alive);
            case 2: return now.into[secret];
            case 3: return now.into[secret] == NOTHING ? 0 : now.would[secret];
            default: return NONE;
        }
    }

    public int tells(int tie, int secret) {
        if (!isTie(tie) || !isSecret(secret)) {
            return NONE;
        }
        if (!now.isAlive(text.from[tie]) || !now.isAlive(text.to[tie])) {
            return NOTHING;
        }
        return daily.tellsNow(text, now, tie, secret);
    }

    public int count(int what) {
        switch (what) {
            case 0: return text.wells;
            case 1: return text.men;
            case 2: return text.secrets;
            case 3: return text.ties;
            case 4: return now.day;
            case 5: return now.alive;
            case 6: return now.cuts;
            case 7: return now.whispers;
            case 8: return tape.length;
            case 9: return doneSize;
            case 10: return notes.size;
            case 11: return Integer.bitCount(heldSlots);
            case 12: return now.allWater(text);
            case 13: return text.lies;
            default: return NONE;
        }
    }

    // ---- what is done

    public int days(int n) {
        if (n < 0 || n > 100) {
            return NONE;
        }
        if (n > 0) {
            keepForUndo();
            for (int i = 0; i < n; i++) {
                daily.pass(text, now, text.seed);
            }
            changed();
        }
        return now.day;
    }

    public int whisper(int man, int secret, int well) {
        return whisperInto(man, secret, well, 0);
    }

    public int drill(int man, int secret, int well) {
        return whisperInto(man, secret, well, text.salt);
    }

    private int whisperInto(int man, int secret, int well, int lost) {
        if (!isMan(man) || !isSecret(secret) || !isWell(well)) {
            return NONE;
        }
        if (!now.isAlive(man) || !now.isKnownTo(man, secret) || now.into[secret] == well) {
            return NOTHING;
        }
        keepForUndo();
        now.into[secret] = well;
        now.whispers++;
        now.water[well] = Math.max(0, now.water[well] - lost);
        changed();
        return now.deep[well];
    }

    public boolean tell(int man, int other, int secret) {
        if (!isMan(man) || !isMan(other) || !isSecret(secret)) {
            return false;
        }
        if (!now.isAlive(man) || !now.isAlive(other)) {
            return false;
        }
        if (!now.isKnownTo(man, secret) || now.isKnownTo(other, secret)) {
            return false;
        }
        keepForUndo();
        now.knows[other] |= 1 << secret;
        changed();
        return true;
    }

    public boolean go(int man, int well) {
        if (!isMan(man) || !isWell(well) || !now.isAlive(man) || now.home[man] == well) {
            return false;
        }
        keepForUndo();
        now.home[man] = well;
        changed();
        return true;
    }

    public boolean cut(int tie, boolean cut) {
        if (!isTie(tie) || now.isCut(tie) == cut) {
            return false;
        }
        keepForUndo();
        now.cuts ^= 1 << tie;
        changed();
        return true;
    }

    public boolean undo() {
        if (doneSize == 0) {
            return false;
        }
        doneSize--;
        done.load((oldestDone + doneSize) % MAX_UNDO, now);
        changed();
        return true;
    }

    public boolean hold(int slot) {
        if (slot < 0 || slot >= MAX_SLOTS) {
            return false;
        }
        slots.save(slot, now);
        heldSlots |= 1 << slot;
        return true;
    }

    public boolean restore(int slot) {
        if (slot < 0 || slot >= MAX_SLOTS || (heldSlots >> slot & 1) == 0) {
            return false;
        }
        slots.load(slot, now);
        forgetDone();
        changed();
        return true;
    }

    private void keepForUndo() {
        done.save((oldestDone + doneSize) % MAX_UNDO, now);
        if (doneSize < MAX_UNDO) {
            doneSize++;
        } else {
            oldestDone = (oldestDone + 1) % MAX_UNDO;
        }
    }

    private void forgetDone() {
        oldestDone = 0;
        doneSize = 0;
    }

    /** Behind every change, so that nothing that was worked out ahead of it is answered. */
    private void changed() {
        now.measure(text);
        now.settle(text);
        cloud.isFresh = false;
    }

    // ---- what would be

    public int wellIn(int well, int n, int what) {
        if (!isWell(well) || n < 0 || n > MAX_AHEAD || what < 0 || what > 1) {
            return NONE;
        }
        lookAhead(n, text.seed);
        return what == 0 ? trial.deep[well] : trial.water[well];
    }

    public int manIn(int man, int n, int what) {
        if (!isMan(man) || n < 0 || n > MAX_AHEAD || what < 0 || what > 2) {
            return NONE;
        }
        lookAhead(n, text.seed);
        switch (what) {
            case 0: return trial.isAlive(man) ? 1 : 0;
            case 1: return trial.thirst[man];
            default: return trial.knows[man];
        }
    }

    private void lookAhead(int n, int seed) {
        trial.copyOf(now);
        for (int i = 0; i < n; i++) {
            daily.pass(text, trial, seed);
        }
    }

    public int dryBy(int well) {
        if (!isWell(well)) {
            return NONE;
        }
        trial.copyOf(now);
        for (int n = 0; n <= MAX_AHEAD; n++) {
            if (trial.water[well] == 0) {
                return n;
            }
            daily.pass(text, trial, text.seed);
        }
        return NOTHING;
    }

    public int first(int what) {
        if (what < 0 || what > 1) {
            return NONE;
        }
        trial.copyOf(now);
        for (int n = 1; n <= MAX_AHEAD; n++) {
            daily.pass(text, trial, text.seed);
            int died = now.alive & ~trial.alive;
            if (died != 0) {
                return what == 0 ? Integer.numberOfTrailingZeros(died) : n;
            }
        }
        return NOTHING;
    }

    public int rain(int set, int n, int what) {
        if (!isRain(set, n) || what < 0 || what > 2) {
            return NONE;
        }
        if (text.wells == 0) {
            return NOTHING;
        }
        cloud.seek(text, now, trial, daily, set, n);
        switch (what) {
            case 0: return cloud.fewestDead;
            case 1: return cloud.leastThirst;
            default: return cloud.fewestWhispers;
        }
    }

    public int rainAt(int set, int n, int i) {
        if (!isRain(set, n) || i < 0 || i >= Integer.bitCount(set)) {
            return NONE;
        }
        if (text.wells == 0) {
            return NOTHING;
        }
        cloud.seek(text, now, trial, daily, set, n);
        return cloud.best[i];
    }

    private boolean isRain(int set, int n) {
        return isSet(set) && set != 0 && Integer.bitCount(set) <= MAX_RAIN && n >= 1 && n <= 60;
    }

    public int odds(int man, int secret, int n, int s) {
        if (!isMan(man) || !isSecret(secret) || !isSeeds(n, s)) {
            return NONE;
        }
        int often = 0;
        for (int i = 0; i < s; i++) {
            lookAhead(n, text.seed + i);
            if (trial.isKnownTo(man, secret)) {
                often++;
            }
        }
        return often;
    }

    public int deaths(int n, int s) {
        if (!isSeeds(n, s)) {
            return NONE;
        }
        int dead = 0;
        for (int i = 0; i < s; i++) {
            lookAhead(n, text.seed + i);
            dead += text.men - Integer.bitCount(trial.alive);
        }
        return dead;
    }

    private static boolean isSeeds(int n, int s) {
        return n >= 0 && n <= 100 && s >= 1 && s <= 20;
    }

    public int worth(int secret) {
        if (!isSecret(secret)) {
            return NONE;
        }
        boolean isKnown = (now.knowers(text, secret) & now.alive) != 0;
        if (now.into[secret] == NOTHING || text.isLie(secret) || !isKnown) {
            return 0;
        }
        int alone = State.share(text.heavy[secret], 1, Integer.bitCount(now.alive));
        return alone - now.would[secret];
    }

    // ---- who tells, who holds, who keeps quiet

    public int silence(int secret, int man, int what) {
        if (!isSecret(secret) || !isMan(man) || what < 0 || what > 1) {
            return NONE;
        }
        if (!now.isAlive(man) || now.isKnownTo(man, secret)) {
            return NOTHING;
        }
        int ties = people.fewestCuts(text, now, secret, man);
        return what == 0 ? Integer.bitCount(ties) : ties;
    }

    public int reach(int secret) {
        if (!isSecret(secret)) {
            return NONE;
        }
        int knowers = now.knowers(text, secret) & now.alive;
        return people.spread(text, knowers, people.openTies(text, now));
    }

    public int holds(int man, int other) {
        if (!isMan(man) || !isMan(other) || man == other) {
            return NONE;
        }
        return people.sharedByTwo(text, now, man, other);
    }

    public int rings() {
        int pairs = 0;
        for (int a = 0; a < text.men; a++) {
            for (int b = a + 1; b < text.men; b++) {
                if (people.sharedByTwo(text, now, a, b) > 0) {
                    pairs++;
                }
            }
        }
        return pairs;
    }

    public int quiet(int well, int i) {
        if (!isWell(well) || i < NONE) {
            return NONE;
        }
        return people.rests(text, now, well, i);
    }

    // ---- what is TOLD

    public int note(int well, int set, int deep) {
        if (!isWell(well) || !isSet(set) || deep < 0 || deep > 9999) {
            return NONE;
        }
        return notes.add(well, set, deep);
    }

    public int forget() {
        int were = notes.size;
        notes.size = 0;
        return were;
    }

    public int truth(int k, int i) {
        if (!isKnownBy(k) || i < NONE) {
            return NONE;
        }
        return notes.trueOnes(text, k, i);
    }

    public int sure(int k, boolean lies) {
        return isKnownBy(k) ? notes.alwaysSo(text, k, lies) : NONE;
    }

    public int next(int k, int what) {
        if (!isKnownBy(k) || what < 0 || what > 1) {
            return NONE;
        }
        return text.wells == 0 ? NOTHING : notes.tellsMost(text, k, what);
    }

    // ---- which ones there are

    private boolean isWell(int well) {
        return well >= 0 && well < text.wells;
    }

    private boolean isMan(int man) {
        return man >= 0 && man < text.men;
    }

    private boolean isSecret(int secret) {
        return secret >= 0 && secret < text.secrets;
    }

    private boolean isTie(int tie) {
        return tie >= 0 && tie < text.ties;
    }

    private boolean isSet(int set) {
        return set >= 0 && set < 1 << text.secrets;
    }

    private boolean isKnownBy(int k) {
        return k >= 0 && k <= notes.size;
    }

    /** The bytes that were fed, and the TOKENS that they are: the last one is END, NO_TOKEN or one too many. */
    private static final class Tape {
        static final int END = 0;
        static final int NO_TOKEN = 1;
        // The SIGNS are their own bytes; an INT and a NAME are as a byte that they may begin with.
        static final int INT = '0';
        static final int NAME = 'a';
        // The words in quotes, in the order in which WORDS has them.
        static final int WELL = 128;
        static final int MAN = 129;
        static final int SECRET = 130;
        static final int TIE = 131;
        static final int FILLS = 132;
        static final int TELLS = 133;
        static final int DRINKS = 134;
        static final int THIRST = 135;
        static final int SALT = 136;
        static final int SEED = 137;
        static final int FALSE = 138;
        static final int IF = 139;
        static final int THEN = 140;
        static final int ELSE = 141;
        static final int DAY = 142;
        static final int WHICH = 149;

        private static final int MAX_LETTERS = 8;
        private static final int MAX_DIGITS = 4;
        private static final String WORDS =
            "well man secret tie fills tells drinks thirst salt seed false if then else day deep wet dry know heavy with which";
        private static final String SIGNS = ";=+-*/<()";

        int length = 0;
        private final byte[] bytes = new byte[MAX_BYTES];
        private final long[] words = new long[WHICH - WELL + 1];
        private final int[] kinds = new int[MAX_TOKENS + 1];
        private final int[] places = new int[MAX_TOKENS + 1];
        private final long[] values = new long[MAX_TOKENS + 1];

        Tape() {
            int word = 0;
            for (int i = 0; i < WORDS.length() && word < words.length; i++) {
                if (WORDS.charAt(i) == ' ') {
                    word++;
                } else {
                    words[word] = withLetter(words[word], WORDS.charAt(i));
                }
            }
        }

        void append(int four) {
            for (int shift = 24; shift >= 0 && length < MAX_BYTES; shift -= 8) {
                bytes[length] = (byte) (four >> shift);
                length++;
            }
        }

        int kindAt(int token) {
            return token >= 0 && token <= MAX_TOKENS ? kinds[token] : END;
        }

        int placeAt(int token) {
            return token >= 0 && token <= MAX_TOKENS ? places[token] : 0;
        }

        long valueAt(int token) {
            return token >= 0 && token <= MAX_TOKENS ? values[token] : 0;
        }

        void scan() {
            int from = 0;
            for (int token = 0; token <= MAX_TOKENS; token++) {
                from = behindBlanks(from);
                places[token] = from;
                values[token] = 0;
                from = scanOne(token, from);
                if (kinds[token] == END || kinds[token] == NO_TOKEN) {
                    return;
                }
            }
        }

        private int behindBlanks(int from) {
            int at = from;
            while (at < length && isBlank(bytes[at])) {
                at++;
            }
            return at;
        }

        private int scanOne(int token, int from) {
            if (from >= length) {
                kinds[token] = END;
                return from;
            }
            if (isLetter(bytes[from])) {
                return scanLetters(token, from);
            }
            if (isDigit(bytes[from])) {
                return scanDigits(token, from);
            }
            boolean isSign = bytes[from] > 0 && SIGNS.indexOf((char) bytes[from]) >= 0;
            kinds[token] = isSign ? bytes[from] : NO_TOKEN;
            return from + 1;
        }

        private int scanLetters(int token, int from) {
            int at = from;
            long name = 0;
            while (at < length && isLetter(bytes[at])) {
                name = withLetter(name, bytes[at]);
                at++;
            }
            values[token] = name;
            kinds[token] = at - from > MAX_LETTERS ? NO_TOKEN : kindOf(name);
            return at;
        }

        private int scanDigits(int token, int from) {
            int at = from;
            int number = 0;
            while (at < length && isDigit(bytes[at])) {
                number = number * 10 + bytes[at] - '0';
                at++;
            }
            values[token] = number;
            kinds[token] = at - from > MAX_DIGITS ? NO_TOKEN : INT;
            return at;
        }

        private int kindOf(long name) {
            for (int i = 0; i < words.length; i++) {
                if (words[i] == name) {
                    return WELL + i;
                }
            }
            return NAME;
        }

        /** A NAME as a number: no two of eight letters at most have the same. */
        private static long withLetter(long name, int letter) {
            return name * 27 + letter - 'a' + 1;
        }

        private static boolean isBlank(int b) {
            return b == 9 || b == 10 || b == 13 || b == 32;
        }

        private static boolean isLetter(int b) {
            return b >= 'a' && b <= 'z';
        }

        private static boolean isDigit(int b) {
            return b >= '0' && b <= '9';
        }
    }

    /** Finds the first SYNTAX or ROOM of a text. */
    private static final class Shape {
        private static final int SYNTAX = 1;
        private static final int ROOM = 2;
        private static final int MAX_IFS = 4;
        private static final int MAX_OPEN = 6;

        int place = NONE;
        private final Tape tape;
        private int fault = 0;
        private int at = 0;
        private final int[] told = new int[4];

        Shape(Tape read) {
            tape = read;
        }

        int seek() {
            at = 0;
            fault = 0;
            Arrays.fill(told, 0);
            boolean isGood = true;
            for (int i = 0; i <= MAX_TOKENS && isGood && tape.kindAt(at) != Tape.END; i++) {
                isGood = isTell();
            }
            place = fault == 0 ? NONE : tape.placeAt(at);
            return fault;
        }

        /** The fault is at the TOKEN that is looked at: nothing goes on from there. */
        private boolean failed(int number) {
            fault = number;
            return false;
        }

        private boolean isTaken(int kind) {
            if (tape.kindAt(at) != kind) {
                return failed(SYNTAX);
            }
            if (at >= MAX_TOKENS) {
                return failed(ROOM);
            }
            at++;
            return true;
        }

        private boolean areTaken(String kinds) {
            for (int i = 0; i < kinds.length(); i++) {
                if (!isTaken(kinds.charAt(i))) {
                    return false;
                }
            }
            return true;
        }

        private boolean isTell() {
            int word = tape.kindAt(at);
            if (word < Tape.WELL || word > Tape.SEED) {
                return failed(SYNTAX);
            }
            if (!hasRoom(word) || !isTaken(word)) {
                return false;
            }
            switch (word) {
                case Tape.WELL: return areTaken("a00;");
                case Tape.MAN: return areTaken("aa0;");
                case Tape.SECRET: return isRestOfSecret();
                case Tape.TIE: return areTaken("aa;");
                case Tape.FILLS: case Tape.TELLS: case Tape.DRINKS: return isLaw();
                default: return areTaken("0;");
            }
        }

        private boolean hasRoom(int word) {
            int sort = word - Tape.WELL;
            if (sort < 0 || sort >= told.length) {
                return true;
            }
            told[sort]++;
            return told[sort] <= mostOf(word) || failed(ROOM);
        }

        private static int mostOf(int word) {
            switch (word) {
                case Tape.WELL: return MAX_WELLS;
                case Tape.MAN: return MAX_MEN;
                case Tape.SECRET: return MAX_SECRETS;
                default: return MAX_TIES;
            }
        }

        private boolean isRestOfSecret() {
            if (!areTaken("a0")) {
                return false;
            }
            if (tape.kindAt(at) == Tape.FALSE && !isTaken(Tape.FALSE)) {
                return false;
            }
            for (int i = 0; i <= MAX_TOKENS && tape.kindAt(at) == Tape.NAME; i++) {
                if (!isTaken(Tape.NAME)) {
                    return false;
                }
            }
            return isTaken(';');
        }

        private boolean isLaw() {
            if (!isTaken('=')) {
                return false;
            }
            for (int ifs = 0; ifs <= MAX_IFS && tape.kindAt(at) == Tape.IF; ifs++) {
                if (ifs == MAX_IFS) {
                    return failed(ROOM);
                }
                if (!isCase()) {
                    return false;
                }
            }
            return isSum() && isTaken(';');
        }

        private boolean isCase() {
            return isTaken(Tape.IF) && isSum() && isTaken('<') && isSum()
                && isTaken(Tape.THEN) && isSum() && isTaken(Tape.ELSE);
        }

        /** An E: units and signs by turns, with what is open counted; what stands behind it is not looked at here. */
        private boolean isSum() {
            int open = 0;
            boolean unitIsDue = true;
            for (int i = 0; i <= MAX_TOKENS; i++) {
                int kind = tape.kindAt(at);
                if (unitIsDue) {
                    if (kind == '(') {
                        open++;
                        if (open > MAX_OPEN) {
                            return failed(ROOM);
                        }
                    } else if (isValue(kind)) {
                        unitIsDue = false;
                    } else {
                        return failed(SYNTAX);
                    }
                } else if (isSign(kind)) {
                    unitIsDue = true;
                } else if (open == 0) {
                    return true;
                } else if (kind == ')') {
                    open--;
                } else {
                    return failed(SYNTAX);
                }
                if (!isTaken(kind)) {
                    return false;
                }
            }
            return false;
        }

        private static boolean isValue(int kind) {
            return kind == Tape.INT || kind >= Tape.DAY && kind <= Tape.WHICH;
        }

        private static boolean isSign(int kind) {
            return kind == '+' || kind == '-' || kind == '*' || kind == '/';
        }
    }

    /** Finds the first TWICE, NAME or WRONG of a text without SYNTAX and ROOM, and puts down what it tells. */
    private static final class Meaning {
        private static final int TWICE = 3;
        private static final int NAME = 4;
        private static final int WRONG = 5;

        int place = NONE;
        private final Tape tape;
        private int fault = 0;
        private int at = 0;
        private final long[] wellNames = new long[MAX_WELLS];
        private final long[] manNames = new long[MAX_MEN];
        private final long[] secretNames = new long[MAX_SECRETS];

        Meaning(Tape read) {
            tape = read;
        }

        int seek(Text text) {
            at = 0;
            fault = 0;
            place = NONE;
            text.clear();
            for (int i = 0; i <= MAX_TOKENS && fault == 0 && tape.kindAt(at) != Tape.END; i++) {
                putTell(text);
            }
            text.measure();
            return fault;
        }

        private void putTell(Text text) {
            int word = tape.kindAt(at);
            at++;
            switch (word) {
                case Tape.WELL: putWell(text); break;
                case Tape.MAN: putMan(text); break;
                case Tape.SECRET: putSecret(text); break;
                case Tape.TIE: putTie(text); break;
                case Tape.FILLS: putLaw(text.fills); break;
                case Tape.TELLS: putLaw(text.tells); break;
                case Tape.DRINKS: putLaw(text.drinks); break;
                case Tape.THIRST: text.thirst = number(1, 99); break;
                case Tape.SALT: text.salt = number(0, 99); break;
                default: text.seed = number(0, 9999); break;
            }
            at++;
        }

        private void putWell(Text text) {
            int well = text.wells;
            if (well >= MAX_WELLS) {
                return;
            }
            wellNames[well] = newName(text);
            text.wells++;
            text.rock[well] = number(0, 999);
            text.water[well] = number(0, 999);
        }

        private void putMan(Text text) {
            int man = text.men;
            if (man >= MAX_MEN) {
                return;
            }
            manNames[man] = newName(text);
            text.men++;
            text.home[man] = Math.max(0, oldName(wellNames, text.wells));
            text.want[man] = number(0, 99);
        }

        private void putSecret(Text text) {
            int secret = text.secrets;
            if (secret >= MAX_SECRETS) {
                return;
            }
            secretNames[secret] = newName(text);
            text.secrets++;
            text.heavy[secret] = number(1, 99);
            if (tape.kindAt(at) == Tape.FALSE) {
                text.lies |= 1 << secret;
                at++;
            }
            for (int i = 0; i <= MAX_TOKENS && tape.kindAt(at) == Tape.NAME; i++) {
                putKnower(text, secret);
            }
        }

        private void putKnower(Text text, int secret) {
            int man = oldName(manNames, text.men);
            if (man < 0) {
                return;
            }
            if ((text.knows[man] >> secret & 1) != 0) {
                failed(TWICE, at - 1);
            }
            text.knows[man] |= 1 << secret;
        }

        private void putTie(Text text) {
            int tie = text.ties;
            if (tie >= MAX_TIES) {
                return;
            }
            int from = oldName(manNames, text.men);
            int to = oldName(manNames, text.men);
            if (from == to) {
                failed(TWICE, at - 1);
            }
            text.from[tie] = Math.max(0, from);
            text.to[tie] = Math.max(0, to);
            text.ties++;
        }

        private void putLaw(Law law) {
            law.begin();
            at++;
            for (int i = 0; i <= MAX_TOKENS && tape.kindAt(at) != ';' && tape.kindAt(at) != Tape.END; i++) {
                law.add(tape.kindAt(at), (int) tape.valueAt(at));
                at++;
            }
            law.finish();
        }

        private int number(int least, int most) {
            int number = (int) tape.valueAt(at);
            if (number < least || number > most) {
                failed(WRONG, at);
            }
            at++;
            return number;
        }

        private long newName(Text text) {
            long name = tape.valueAt(at);
            if (isTold(text, name)) {
                failed(TWICE, at);
            }
            at++;
            return name;
        }

        private boolean isTold(Text text, long name) {
            return find(wellNames, text.wells, name) >= 0 || find(manNames, text.men, name) >= 0
                || find(secretNames, text.secrets, name) >= 0;
        }

        private int oldName(long[] names, int size) {
            int found = find(names, size, tape.valueAt(at));
            if (found < 0) {
                failed(NAME, at);
            }
            at++;
            return found;
        }

        private static int find(long[] names, int size, long name) {
            for (int i = 0; i < size && i < names.length; i++) {
                if (names[i] == name) {
                    return i;
                }
            }
            return NONE;
        }

        /** Only the first one counts: what is put down behind it is thrown away with the text. */
        private void failed(int number, int token) {
            if (fault == 0) {
                fault = number;
                place = tape.placeAt(token);
            }
        }
    }

    /** A LAW as a row of steps over a stack, so that it is told again and again without being read again. */
    private static final class Law {
        private static final int NUMBER = 0;
        private static final int VARIABLE = 1;
        private static final int UNLESS = 2;
        private static final int END = 3;
        private static final int MAX_STACK = 64;

        private final int[] steps = new int[MAX_TOKENS];
        private final int[] stack = new int[MAX_STACK];
        private int size = 0;
        private int waiting = 0;
        private int branch = 0;

        void begin() {
            size = 0;
            waiting = 0;
            branch = 0;
        }

        void be(int number) {
            begin();
            put(NUMBER, number);
            put(END, 0);
        }

        boolean isTold() {
            return size > 0;
        }

        void add(int kind, int value) {
            switch (kind) {
                case Tape.INT: put(NUMBER, value); break;
                case '(': await(kind); break;
                case ')':
                    putWaiting(1);
                    waiting = Math.max(0, waiting - 1);
                    break;
                case '+': case '-':
                    putWaiting(1);
                    await(kind);
                    break;
                case '*': case '/':
                    putWaiting(2);
                    await(kind);
                    break;
                case '<': putWaiting(1); break;
                case Tape.IF: break;
                case Tape.THEN:
                    putWaiting(1);
                    branch = size;
                    put(UNLESS, 0);
                    break;
                case Tape.ELSE:
                    finish();
                    if (branch < steps.length) {
                        steps[branch] = UNLESS | size << 8;
                    }
                    break;
                default: put(VARIABLE, kind - Tape.DAY); break;
            }
        }

        void finish() {
            putWaiting(1);
            put(END, 0);
        }

        private void put(int step, int number) {
            if (size < steps.length) {
                steps[size] = step | number << 8;
                size++;
            }
        }

        private void await(int sign) {
            if (waiting < stack.length) {
                stack[waiting] = sign;
                waiting++;
            }
        }

        private void putWaiting(int leastRank) {
            while (waiting > 0 && rank(stack[waiting - 1]) >= leastRank) {
                waiting--;
                put(stack[waiting], 0);
            }
        }

        private static int rank(int sign) {
            return sign == '(' ? 0 : sign == '+' || sign == '-' ? 1 : 2;
        }

        /** What the LAW tells, held to 0 .. most. */
        int value(int[] variables, int most) {
            int top = 0;
            for (int i = 0; i < size && i < steps.length; i++) {
                int step = steps[i] & 255;
                int number = steps[i] >> 8;
                if (step <= VARIABLE) {
                    if (top >= stack.length || step == VARIABLE && (number < 0 || number >= variables.length)) {
                        return 0;
                    }
                    stack[top] = step == NUMBER ? number : variables[number];
                    top++;
                    continue;
                }
                if (step == END) {
                    return top < 1 ? 0 : Math.max(0, Math.min(most, stack[top - 1]));
                }
                if (top < 2) {
                    return 0;
                }
                int right = stack[top - 1];
                int left = stack[top - 2];
                if (step == UNLESS) {
                    top -= 2;
                    i = left < right ? i : Math.max(i, number - 1);
                    continue;
                }
                if (step == '/' && right == 0) {
                    return 0;
                }
                top--;
                stack[top - 1] = joined(step, left, right);
            }
            return 0;
        }

        private static int joined(int sign, int left, int right) {
            switch (sign) {
                case '+': return left + right;
                case '-': return left - right;
                case '*': return left * right;
                default: return right == 0 ? 0 : left / right;
            }
        }
    }

    /** What a text tells; it stays so until the next one. */
    private static final class Text {
        int wells = 0;
        int men = 0;
        int secrets = 0;
        int ties = 0;
        int lies = 0;
        int thirst = 0;
        int salt = 0;
        int seed = 0;
        final int[] rock = new int[MAX_WELLS];
        final int[] water = new int[MAX_WELLS];
        final int[] home = new int[MAX_MEN];
        final int[] want = new int[MAX_MEN];
        final int[] knows = new int[MAX_MEN];
        final int[] heavy = new int[MAX_SECRETS];
        /** How much deeper each SECRET would make a WELL on day 0 if it were true. */
        final int[] ifTrue = new int[MAX_SECRETS];
        final int[] from = new int[MAX_TIES];
        final int[] to = new int[MAX_TIES];
        final Law fills = new Law();
        final Law tells = new Law();
        /** Not told: each wants what stands with him. */
        final Law drinks = new Law();

        void clear() {
            wells = 0;
            men = 0;
            secrets = 0;
            ties = 0;
            lies = 0;
            thirst = 9;
            salt = 10;
            seed = 0;
            Arrays.fill(knows, 0);
            fills.be(10);
            tells.be(0);
            drinks.begin();
        }

        void measure() {
            for (int s = 0; s < secrets; s++) {
                int known = 0;
                for (int m = 0; m < men; m++) {
                    known += knows[m] >> s & 1;
                }
                ifTrue[s] = State.share(heavy[s], known, men);
            }
        }

        boolean isLie(int secret) {
            return (lies >> secret & 1) != 0;
        }
    }

    /** All that goes on, and, measured from it, how DEEP it is: each change must be followed by measure(). */
    private static final class State {
        static final int CELLS = 4 + MAX_WELLS + 3 * MAX_MEN + MAX_SECRETS;

        int day = 0;
        int alive = 0;
        int cuts = 0;
        int whispers = 0;
        final int[] water = new int[MAX_WELLS];
        final int[] home = new int[MAX_MEN];
        final int[] thirst = new int[MAX_MEN];
        final int[] knows = new int[MAX_MEN];
        /** The WELL that each SECRET is whispered into, or NOTHING. */
        final int[] into = new int[MAX_SECRETS];

        final int[] deep = new int[MAX_WELLS];
        final int[] holding = new int[MAX_WELLS];
        final int[] drinkers = new int[MAX_WELLS];
        /** How much deeper each SECRET makes a WELL into which it is whispered. */
        final int[] would = new int[MAX_SECRETS];

        void begin(Text text) {
            day = 0;
            alive = (1 << text.men) - 1;
            cuts = 0;
            whispers = 0;
            System.arraycopy(text.water, 0, water, 0, MAX_WELLS);
            System.arraycopy(text.home, 0, home, 0, MAX_MEN);
            System.arraycopy(text.knows, 0, knows, 0, MAX_MEN);
            Arrays.fill(thirst, 0);
            Arrays.fill(into, NOTHING);
            measure(text);
            settle(text);
        }

        void copyOf(State other) {
            day = other.day;
            alive = other.alive;
            cuts = other.cuts;
            whispers = other.whispers;
            System.arraycopy(other.water, 0, water, 0, MAX_WELLS);
            System.arraycopy(other.home, 0, home, 0, MAX_MEN);
            System.arraycopy(other.thirst, 0, thirst, 0, MAX_MEN);
            System.arraycopy(other.knows, 0, knows, 0, MAX_MEN);
            System.arraycopy(other.into, 0, into, 0, MAX_SECRETS);
            System.arraycopy(other.deep, 0, deep, 0, MAX_WELLS);
            System.arraycopy(other.holding, 0, holding, 0, MAX_WELLS);
            System.arraycopy(other.drinkers, 0, drinkers, 0, MAX_WELLS);
            System.arraycopy(other.would, 0, would, 0, MAX_SECRETS);
        }

        void measure(Text text) {
            int living = Integer.bitCount(alive);
            for (int w = 0; w < text.wells; w++) {
                deep[w] = text.rock[w];
                holding[w] = 0;
                drinkers[w] = 0;
            }
            for (int m = 0; m < text.men; m++) {
                if (isAlive(m)) {
                    drinkers[home[m]] |= 1 << m;
                }
            }
            for (int s = 0; s < text.secrets; s++) {
                int known = Integer.bitCount(knowers(text, s) & alive);
                would[s] = text.isLie(s) ? 0 : share(text.heavy[s], known, living);
                int well = into[s];
                if (well >= 0 && would[s] > 0) {
                    deep[well] += would[s];
                    holding[well] |= 1 << s;
                }
            }
        }

        /** How much deeper a true SECRET makes a WELL, if so many of the living know it. */
        static int share(int heavy, int known, int living) {
            if (known <= 0 || known >= living && living > 1) {
                return 0;
            }
            return heavy * 10 / known;
        }

        void settle(Text text) {
            for (int w = 0; w < text.wells; w++) {
                water[w] = Math.min(water[w], deep[w]);
            }
        }

        boolean isAlive(int man) {
            return (alive >> man & 1) != 0;
        }

        boolean isCut(int tie) {
            return (cuts >> tie & 1) != 0;
        }

        boolean isKnownTo(int man, int secret) {
            return (knows[man] >> secret & 1) != 0;
        }

        int knowers(Text text, int secret) {
            int bits = 0;
            for (int m = 0; m < text.men; m++) {
                bits |= (knows[m] >> secret & 1) << m;
            }
            return bits;
        }

        int whisperedInto(Text text, int well) {
            int bits = 0;
            for (int s = 0; s < text.secrets; s++) {
                if (into[s] == well) {
                    bits |= 1 << s;
                }
            }
            return bits;
        }

        int allWater(Text text) {
            int all = 0;
            for (int w = 0; w < text.wells; w++) {
                all += water[w];
            }
            return all;
        }

        int allThirst(Text text) {
            int all = 0;
            for (int m = 0; m < text.men; m++) {
                all += isAlive(m) ? thirst[m] : 0;
            }
            return all;
        }
    }

    /** States put away in one row of numbers: far fewer objects than as many States. */
    private static final class Rows {
        private final int[] cells;

        Rows(int rows) {
            cells = new int[Math.max(0, rows) * State.CELLS];
        }

        void save(int row, State state) {
            int at = row * State.CELLS;
            if (row < 0 || at + State.CELLS > cells.length) {
                return;
            }
            cells[at] = state.day;
            cells[at + 1] = state.alive;
            cells[at + 2] = state.cuts;
            cells[at + 3] = state.whispers;
            at += 4;
            System.arraycopy(state.water, 0, cells, at, MAX_WELLS);
            at += MAX_WELLS;
            System.arraycopy(state.home, 0, cells, at, MAX_MEN);
            at += MAX_MEN;
            System.arraycopy(state.thirst, 0, cells, at, MAX_MEN);
            at += MAX_MEN;
            System.arraycopy(state.knows, 0, cells, at, MAX_MEN);
            at += MAX_MEN;
            System.arraycopy(state.into, 0, cells, at, MAX_SECRETS);
        }

        void load(int row, State state) {
            int at = row * State.CELLS;
            if (row < 0 || at + State.CELLS > cells.length) {
                return;
            }
            state.day = cells[at];
            state.alive = cells[at + 1];
            state.cuts = cells[at + 2];
            state.whispers = cells[at + 3];
            at += 4;
            System.arraycopy(cells, at, state.water, 0, MAX_WELLS);
            at += MAX_WELLS;
            System.arraycopy(cells, at, state.home, 0, MAX_MEN);
            at += MAX_MEN;
            System.arraycopy(cells, at, state.thirst, 0, MAX_MEN);
            at += MAX_MEN;
            System.arraycopy(cells, at, state.knows, 0, MAX_MEN);
            at += MAX_MEN;
            System.arraycopy(cells, at, state.into, 0, MAX_SECRETS);
        }
    }

    /** A DAY, and what the LAWS tell in it. */
    private static final class Days {
        private final int[] variables = new int[8];
        private final int[] knewAhead = new int[MAX_MEN];

        void pass(Text text, State state, int seed) {
            for (int w = 0; w < text.wells; w++) {
                int more = fillsNow(text, state, w);
                state.water[w] = Math.min(state.deep[w], state.water[w] + more);
            }
            for (int m = 0; m < text.men; m++) {
                if (state.isAlive(m)) {
                    drink(text, state, m);
                }
            }
            System.arraycopy(state.knows, 0, knewAhead, 0, MAX_MEN);
            for (int tie = 0; tie < text.ties; tie++) {
                talk(text, state, tie, seed);
            }
            state.settle(text);
            state.day++;
        }

        private void drink(Text text, State state, int man) {
            int well = state.home[man];
            int wanted = drinksNow(text, state, man);
            if (state.water[well] >= wanted) {
                state.water[well] -= wanted;
                state.thirst[man] = 0;
                return;
            }
            state.water[well] = 0;
            state.thirst[man]++;
            if (state.thirst[man] >= text.thirst) {
                state.alive &= ~(1 << man);
                state.measure(text);
            }
        }

        private void talk(Text text, State state, int tie, int seed) {
            int from = text.from[tie];
            int to = text.to[tie];
            int news = knewAhead[from] & ~state.knows[to];
            if (news == 0 || state.isCut(tie) || !state.isAlive(from) || !state.isAlive(to)) {
                return;
            }
            for (int s = 0; s < text.secrets; s++) {
                if ((news >> s & 1) == 0) {
                    continue;
                }
                int chance = tellsNow(text, state, tie, s);
                if (lot(100, seed, 128 * state.day + 8 * tie + s) < chance) {
                    state.knows[to] |= 1 << s;
                    state.measure(text);
                }
            }
        }

        int fillsNow(Text text, State state, int well) {
            variables[3] = 0;
            variables[4] = Integer.bitCount(state.holding[well]);
            variables[5] = 0;
            variables[7] = well;
            look(state, well);
            return text.fills.value(variables, 999);
        }

        int drinksNow(Text text, State state, int man) {
            if (!text.drinks.isTold()) {
                return text.want[man];
            }
            variables[3] = state.thirst[man];
            variables[4] = Integer.bitCount(state.knows[man]);
            variables[5] = 0;
            variables[7] = man;
            look(state, state.home[man]);
            return text.drinks.value(variables, 99);
        }

        int tellsNow(Text text, State state, int tie, int secret) {
            int man = text.from[tie];
            variables[3] = state.thirst[man];
            variables[4] = Integer.bitCount(state.knows[man]);
            variables[5] = text.heavy[secret];
            variables[7] = tie;
            look(state, state.home[man]);
            return text.tells.value(variables, 100);
        }

        private void look(State state, int well) {
            variables[0] = state.day;
            variables[1] = state.deep[well];
            variables[2] = state.water[well];
            variables[6] = Integer.bitCount(state.drinkers[well]);
        }

        private static int lot(int n, int seed, int which) {
            int h = stirred(stirred(seed, 49), which);
            return n < 1 ? 0 : (h >>> 1) % n;
        }

        private static int stirred(int h, int by) {
            int stirred = (h ^ by) * 1103515245 + 12345;
            return stirred ^ stirred >>> 15;
        }
    }

    /** RAIN: goes through all ways to whisper a set of SECRETS; the best one is kept for the questions about it. */
    private static final class Rain {
        boolean isFresh = false;
        int fewestDead = 0;
        int leastThirst = 0;
        int fewestWhispers = 0;
        final int[] best = new int[MAX_RAIN];
        private final int[] chosen = new int[MAX_RAIN];
        private final int[] way = new int[MAX_RAIN];
        private int size = 0;
        private int freshSet = 0;
        private int freshDays = 0;

        void seek(Text text, State now, State trial, Days daily, int set, int n) {
            if (isFresh && set == freshSet && n == freshDays) {
                return;
            }
            choose(text, set);
            fewestDead = MAX_MEN + 1;
            int ways = 1;
            for (int i = 0; i < size; i++) {
                ways *= text.wells + 1;
            }
            // The first SECRET is the highest digit, so that of alike ways the first one that is met is the one due.
            for (int number = 0; number < ways; number++) {
                if (isLaid(text, now, number) && mayBeBetter()) {
                    attempt(text, now, trial, daily, n);
                }
            }
            isFresh = true;
            freshSet = set;
            freshDays = n;
        }

        private void choose(Text text, int set) {
            size = 0;
            for (int s = 0; s < text.secrets && size < MAX_RAIN; s++) {
                if ((set >> s & 1) != 0) {
                    chosen[size] = s;
                    size++;
                }
            }
        }

        private boolean isLaid(Text text, State now, int number) {
            int base = text.wells + 1;
            int rest = number;
            for (int i = size - 1; i >= 0 && base > 0; i--) {
                int digit = rest % base;
                rest /= base;
                way[i] = digit == 0 ? LEFT : digit - 1;
                if (digit > 0 && !isOfUse(text, now, chosen[i], digit - 1)) {
                    return false;
                }
            }
            return true;
        }

        /** A whisper that nobody can do, or that changes no depth: leaving it is as good and one whisper fewer. */
        private static boolean isOfUse(Text text, State now, int secret, int well) {
            boolean isKnown = (now.knowers(text, secret) & now.alive) != 0;
            return isKnown && !text.isLie(secret) && now.into[secret] != well;
        }

        /** Where nobody dies or thirsts, only fewer whispers are better: most ways need not be gone then. */
        private boolean mayBeBetter() {
            return fewestDead > 0 || leastThirst > 0 || whispers() < fewestWhispers;
        }

        private int whispers() {
            int whispers = 0;
            for (int i = 0; i < size; i++) {
                whispers += way[i] == LEFT ? 0 : 1;
            }
            return whispers;
        }

        private void attempt(Text text, State now, State trial, Days daily, int n) {
            trial.copyOf(now);
            for (int i = 0; i < size; i++) {
                if (way[i] != LEFT) {
                    trial.into[chosen[i]] = way[i];
                    trial.measure(text);
                    trial.settle(text);
                }
            }
            int living = Integer.bitCount(now.alive);
            int dead = 0;
            for (int i = 0; i < n && dead <= fewestDead && dead < living; i++) {
                daily.pass(text, trial, text.seed);
                dead = living - Integer.bitCount(trial.alive);
            }
            int thirst = trial.allThirst(text);
            int whispers = whispers();
            if (isBetter(dead, thirst, whispers)) {
                fewestDead = dead;
                leastThirst = thirst;
                fewestWhispers = whispers;
                System.arraycopy(way, 0, best, 0, MAX_RAIN);
            }
        }

        private boolean isBetter(int dead, int thirst, int whispers) {
            if (dead != fewestDead) {
                return dead < fewestDead;
            }
            if (thirst != leastThirst) {
                return thirst < leastThirst;
            }
            return whispers < fewestWhispers;
        }
    }

    /** Who can hear a SECRET from whom, who holds whom, and who would whisper. */
    private static final class People {
        /** The SECRET that each MAN may whisper, or NONE, and all who may. */
        private final int[] own = new int[MAX_MEN];
        private int players = 0;

        /** The TIES that are not cut, between MEN alive. */
        int openTies(Text text, State state) {
            int bits = 0;
            for (int tie = 0; tie < text.ties; tie++) {
                boolean isOpen = state.isAlive(text.from[tie]) && state.isAlive(text.to[tie]);
                if (isOpen && !state.isCut(tie)) {
                    bits |= 1 << tie;
                }
            }
            return bits;
        }

        /** To which MEN alive what these know can come by these TIES (they themselves, too). */
        int spread(Text text, int knowers, int ties) {
            int reached = knowers;
            int ahead = 0;
            for (int round = 0; round <= MAX_MEN && ahead != reached; round++) {
                ahead = reached;
                for (int tie = 0; tie < text.ties; tie++) {
                    if ((ties >> tie & 1) != 0 && (reached >> text.from[tie] & 1) != 0) {
                        reached |= 1 << text.to[tie];
                    }
                }
            }
            return reached;
        }

        int fewestCuts(Text text, State state, int secret, int man) {
            int knowers = state.knowers(text, secret) & state.alive;
            int open = openTies(text, state);
            int best = open;
            int fewest = MAX_TIES + 1;
            for (int cuts = 0; cuts < 1 << text.ties; cuts++) {
                if ((cuts & ~open) != 0 || Integer.bitCount(cuts) >= fewest) {
                    continue;
                }
                if ((spread(text, knowers, open & ~cuts) >> man & 1) == 0) {
                    best = cuts;
                    fewest = Integer.bitCount(cuts);
                }
            }
            return best;
        }

        int sharedByTwo(Text text, State state, int man, int other) {
            if (!state.isAlive(man) || !state.isAlive(other)) {
                return 0;
            }
            int shared = state.knows[man] & state.knows[other];
            for (int m = 0; m < text.men; m++) {
                if (m != man && m != other && state.isAlive(m)) {
                    shared &= ~state.knows[m];
                }
            }
            return Integer.bitCount(shared);
        }

        /** How many RESTS there are for a WELL (i NONE), or the i-th. */
        int rests(Text text, State state, int well, int i) {
            gatherPlayers(text, state);
            int found = 0;
            for (int set = 0; set < 1 << text.men; set++) {
                if ((set & ~players) == 0 && isRest(text, state, well, set)) {
                    if (found == i) {
                        return set;
                    }
                    found++;
                }
            }
            return i == NONE ? found : NONE;
        }

        private void gatherPlayers(Text text, State state) {
            players = 0;
            for (int m = 0; m < text.men; m++) {
                own[m] = state.isAlive(m) ? heaviest(text, state, m) : NONE;
                if (own[m] != NONE) {
                    players |= 1 << m;
                }
            }
        }

        private static int heaviest(Text text, State state, int man) {
            int best = NONE;
            for (int s = 0; s < text.secrets; s++) {
                boolean mayBe = state.isKnownTo(man, s) && state.into[s] == NOTHING && state.would[s] > 0;
                if (mayBe && (best == NONE || text.heavy[s] > text.heavy[best])) {
                    best = s;
                }
            }
            return best;
        }

        private boolean isRest(Text text, State state, int well, int set) {
            for (int m = 0; m < text.men; m++) {
                boolean may = (players >> m & 1) != 0;
                if (may && gain(text, state, well, set ^ 1 << m, m) > gain(text, state, well, set, m)) {
                    return false;
                }
            }
            return true;
        }

        private int gain(Text text, State state, int well, int set, int man) {
            int gain = 0;
            int drinkers = Integer.bitCount(state.drinkers[well]);
            if (drinkers > 0 && state.home[man] == well) {
                gain = deepBy(text, state, well, set) / drinkers;
            }
            if ((set >> man & 1) != 0) {
                gain -= 5 * Integer.bitCount(players & ~set);
            }
            return gain;
        }

        private int deepBy(Text text, State state, int well, int set) {
            int deep = state.deep[well];
            int whispered = 0;
            for (int m = 0; m < text.men; m++) {
                int secret = own[m];
                if ((set >> m & 1) != 0 && secret != NONE && (whispered >> secret & 1) == 0) {
                    whispered |= 1 << secret;
                    deep += state.would[secret];
                }
            }
            return deep;
        }
    }

    /** What is TOLD of how DEEP the WELLS would be, and what may be true then. */
    private static final class Notes {
        int size = 0;
        private final int[] wellOf = new int[MAX_NOTES];
        private final int[] setOf = new int[MAX_NOTES];
        private final int[] deepOf = new int[MAX_NOTES];
        /** In how many TRUE ones each SECRET goes deeper. */
        private final int[] deeper = new int[MAX_SECRETS];

        int add(int well, int set, int deep) {
            if (size >= MAX_NOTES) {
                return NONE;
            }
            wellOf[size] = well;
            setOf[size] = set;
            deepOf[size] = deep;
            size++;
            return size - 1;
        }

        /** Whether the first k are so, if just these SECRETS are true. */
        private boolean fits(Text text, int k, int trueOnes) {
            for (int i = 0; i < k && i < MAX_NOTES; i++) {
                int deep = text.rock[wellOf[i]];
                int holding = setOf[i] & trueOnes;
                for (int s = 0; s < text.secrets; s++) {
                    if ((holding >> s & 1) != 0) {
                        deep += text.ifTrue[s];
                    }
                }
                if (deep != deepOf[i]) {
                    return false;
                }
            }
            return true;
        }

        /** How many TRUE ones there are (i NONE), or the i-th. */
        int trueOnes(Text text, int k, int i) {
            int found = 0;
            for (int set = 0; set < 1 << text.secrets; set++) {
                if (fits(text, k, set)) {
                    if (found == i) {
                        return set;
                    }
                    found++;
                }
            }
            return i == NONE ? found : NONE;
        }

        int alwaysSo(Text text, int k, boolean lies) {
            int all = (1 << text.secrets) - 1;
            int always = all;
            boolean isAny = false;
            for (int set = 0; set <= all; set++) {
                if (fits(text, k, set)) {
                    isAny = true;
                    always &= lies ? ~set : set;
                }
            }
            return isAny ? always : 0;
        }

        /** NEXT: the SECRET (what 0) or its greater half; NOTHING without SECRETS or TRUE ones. */
        int tellsMost(Text text, int k, int what) {
            int all = countDeeper(text, k);
            if (all == 0) {
                return NOTHING;
            }
            int best = NONE;
            int least = 0;
            for (int s = 0; s < text.secrets; s++) {
                int greater = Math.max(deeper[s], all - deeper[s]);
                if (best == NONE || greater < least) {
                    best = s;
                    least = greater;
                }
            }
            if (best == NONE) {
                return NOTHING;
            }
            return what == 0 ? best : least;
        }

        private int countDeeper(Text text, int k) {
            int all = 0;
            Arrays.fill(deeper, 0);
            for (int set = 0; set < 1 << text.secrets; set++) {
                if (!fits(text, k, set)) {
                    continue;
                }
                all++;
                for (int s = 0; s < text.secrets; s++) {
                    if ((set >> s & 1) != 0 && text.ifTrue[s] > 0) {
                        deeper[s]++;
                    }
                }
            }
            return all;
        }
    }
}
