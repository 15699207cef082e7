import java.util.Arrays;

/**
 * Coins by introduction: people by rank, coins by worth with those whom they know, goods in shops,
 * who may present a coin to whom and what goods cost by a small language, told as a text.
 */
public final class CoinCircle {
    public static final int NONE = -1;

    private static final int TAPE_MAX = 1600;
    private static final int FEED = 20;
    private static final int STATEMENTS_MAX = 80;
    private static final int PEOPLE_MAX = 10;
    private static final int COINS_MAX = 12;
    private static final int GOODS_MAX = 10;
    private static final int OPEN_MAX = 7;
    private static final int PRICE_MAX = 999;
    private static final int DAY_MAX = 999;
    private static final int DAYS_MAX = 100;
    private static final int CALLS_MAX = 50;
    private static final int AHEAD_MAX = 60;
    private static final int AGO_MAX = 200;
    private static final int UNDO_MAX = 20;
    private static final int LETTERS_MAX = 20;
    private static final int TEA_MIN = 2;
    private static final int TEA_MAX = 4;
    private static final int IMAGE_MAX = 2 + COINS_MAX * (1 + PEOPLE_MAX) + 1;
    private static final int NAME_LETTERS = 6;
    private static final int OWN_LETTERS = 8;
    private static final int NUMBER_DIGITS = 4;
    private static final int RESULT_MAX = 1000000;

    // the sorts of what has a NAME
    private static final int PERSON = 0;
    private static final int COIN = 1;
    private static final int GOODS = 2;
    private static final int SORTS = 3;

    // the FAULTS
    private static final int NO_SOCIETY = 1;
    private static final int NAME_GIVEN = 2;
    private static final int NAME_WRONG = 3;
    private static final int NUMBER_WRONG = 4;
    private static final int TOO_DEEP = 5;
    private static final int TOO_MANY = 6;

    // who was refused, as status tells it
    private static final int BY_TAPE = 0;
    private static final int BY_SOCIETY = 1;
    private static final int BY_COINS = 2;
    private static final int BY_PEOPLE = 3;
    private static final int BY_DAYS = 4;
    private static final int BY_REST = 5;
    private static final int REFUSALS = 6;

    private final byte[] tape = new byte[TAPE_MAX];
    private int tapeLength;
    private final Teller teller = new Teller();
    private Society society;
    private final Circle now;
    private final Circle trial;
    private final History history = new History();
    private final Ways ways = new Ways();
    private final int[] refused = new int[REFUSALS];
    private final int[] letterVerdicts = new int[LETTERS_MAX];
    private int letterCount;
    private final byte[] image = new byte[IMAGE_MAX];
    private int imageLength;
    private int seed = 1;

    public CoinCircle() {
        Society empty = new Society();
        society = empty;
        now = new Circle(empty);
        trial = new Circle(empty);
    }

    public int feed(int a, int b, int c, int d, int e) {
        if (tapeLength + FEED > TAPE_MAX) {
            return refuse(BY_TAPE);
        }
        putNumber(tapeLength, a);
        putNumber(tapeLength + 4, b);
        putNumber(tapeLength + 8, c);
        putNumber(tapeLength + 12, d);
        putNumber(tapeLength + 16, e);
        tapeLength += FEED;
        return tapeLength;
    }

    private void putNumber(int from, int number) {
        for (int k = 0; k < 4; k++) {
            if (from >= 0 && from + k < TAPE_MAX) {
                tape[from + k] = (byte) (number >> (24 - 8 * k));
            }
        }
    }

    private int tapeByte(int k) {
        return k >= 0 && k < TAPE_MAX ? tape[k] & 255 : 0;
    }

    public boolean end(int n) {
        if (n < 0 || n > tapeLength) {
            refuse(BY_TAPE);
            return false;
        }
        tapeLength = n;
        return true;
    }

    public int society() {
        int statements = teller.tell(tape, tapeLength);
        tapeLength = 0;
        if (statements == NONE) {
            return refuse(BY_SOCIETY);
        }
        society = teller.exchange(society);
        now.begin(society);
        trial.begin(society);
        history.clear();
        letterCount = 0;
        return statements;
    }

    public int fault(int what) {
        switch (what) {
            case 0: return teller.fault;
            case 1: return teller.place;
            default: return NONE;
        }
    }

    public int has(int what) {
        switch (what) {
            case 0: return society.counts[PERSON];
            case 1: return society.counts[COIN];
            case 2: return society.counts[GOODS];
            case 3: return society.fades;
            case 4: return society.vogue;
            case 5: return now.ledger.day;
            case 6: return now.flow();
            case 7: return now.snubCount();
            case 8: return now.knowingAllCount();
            case 9: return now.uselessPurses();
            case 10: return history.count;
            case 11: return seed;
            default: return NONE;
        }
    }

    public int letter(int kind, int which, int k) {
        if (!society.isThere(kind, which) || k < 0 || k >= NAME_LETTERS) {
            return NONE;
        }
        return letterOf(society.nameOf(kind, which), k);
    }

    public int person(int person, int what) {
        if (!society.isThere(PERSON, person)) {
            return NONE;
        }
        switch (what) {
            case 0: return society.ranks[person];
            case 1: return now.heldBy(person);
            case 2: return society.worthOf(now.heldBy(person));
            case 3: return now.knowing(person);
            case 4: return now.snubbedBy(person);
            case 5: return now.isUseless(person) ? 1 : 0;
            default: return NONE;
        }
    }

    public int coin(int coin, int what) {
        if (!society.isThere(COIN, coin)) {
            return NONE;
        }
        switch (what) {
            case 0: return society.worths[coin];
            case 1: return now.ledger.holders[coin];
            case 2: return now.ledger.known[coin];
            case 3: return now.ledger.snubs[coin];
            case 4: return Integer.bitCount(now.ledger.known[coin]);
            default: return NONE;
        }
    }

    public int met(int coin, int person) {
        if (!areThere(coin, person) || !now.knows(coin, person)) {
            return NONE;
        }
        return now.ledger.metOn(coin, person);
    }

    public int may(int coin, int person) {
        if (!areThere(coin, person) || !now.canBePresented(coin, person)) {
            return NONE;
        }
        return now.testHolds(coin, person) ? 1 : 0;
    }

    public int goods(int goods, int person, int what) {
        if (!society.isThere(GOODS, goods) || !society.isThere(PERSON, person)) {
            return NONE;
        }
        switch (what) {
            case 0: return society.goodsWorths[goods];
            case 1: return society.sellers[goods];
            case 2: return now.priceFor(goods, person);
            default: return NONE;
        }
    }

    public int spend(int person, int other) {
        return areTwo(person, other) ? now.canSpend(person, other) : NONE;
    }

    // ---- acts

    public int present(int coin, int person) {
        if (!areThere(coin, person) || !now.canBePresented(coin, person)) {
            return refuse(BY_COINS);
        }
        history.keep(now.ledger);
        return now.presentTo(coin, person) ? 1 : 0;
    }

    public boolean pay(int coin, int person) {
        if (!areThere(coin, person) || now.ledger.holders[coin] == person || !now.knows(coin, person)) {
            refuse(BY_COINS);
            return false;
        }
        history.keep(now.ledger);
        now.payTo(coin, person);
        return true;
    }

    public int buy(int person, int goods, int coins) {
        if (!society.isThere(PERSON, person) || !society.isThere(GOODS, goods)) {
            return refuse(BY_PEOPLE);
        }
        int change = now.changeOf(person, goods, coins);
        if (change == NONE) {
            return refuse(BY_PEOPLE);
        }
        history.keep(now.ledger);
        now.payAll(coins, society.sellers[goods]);
        now.payAll(change, person);
        return change;
    }

    public int tea(int people) {
        int guests = Integer.bitCount(people);
        if ((people & ~society.allPeople()) != 0 || guests < TEA_MIN || guests > TEA_MAX) {
            return refuse(BY_PEOPLE);
        }
        history.keep(now.ledger);
        return now.takeTea(people);
    }

    public int days(int n) {
        if (n < 1 || n > DAYS_MAX || now.ledger.day + n > DAY_MAX) {
            return refuse(BY_DAYS);
        }
        history.keep(now.ledger);
        return now.passDays(n);
    }

    public int calls(int n) {
        if (n < 1 || n > CALLS_MAX || now.ledger.day + n > DAY_MAX) {
            return refuse(BY_DAYS);
        }
        history.keep(now.ledger);
        int presented = 0;
        for (int k = 0; k < n; k++) {
            now.passDays(1);
            if (callIsPaid()) {
                presented++;
            }
        }
        return presented;
    }

    private boolean callIsPaid() {
        if (draw(100) >= society.vogue || society.counts[COIN] == 0) {
            return false;
        }
        int coin = draw(society.counts[COIN]);
        int person = draw(society.counts[PERSON]);
        if (!areThere(coin, person) || !now.canBePresented(coin, person)) {
            return false;
        }
        now.presentTo(coin, person);
        return true;
    }

    private int draw(int m) {
        seed = (int) ((1103515245L * seed + 12345L) & 0x7fffffffL);
        return m > 0 ? seed / 64 % m : 0;
    }

    public boolean undo() {
        if (history.count == 0) {
            refuse(BY_DAYS);
            return false;
        }
        history.giveBack(now.ledger);
        return true;
    }

    public boolean seed(int seed) {
        if (seed < 0) {
            refuse(BY_REST);
            return false;
        }
        this.seed = seed;
        return true;
    }

    // ---- introductions, ways, teas

    public int introduce(int person, int other, int sum, int what) {
        if (!areTwo(person, other) || sum < 0) {
            return NONE;
        }
        int coins = now.introductions(person, other, sum);
        if (coins == NONE) {
            return NONE;
        }
        switch (what) {
            case 0: return Integer.bitCount(coins);
            case 1: return coins;
            case 2: return now.canSpend(person, other) + society.worthOf(coins);
            default: return NONE;
        }
    }

    public int comes(int coin, int person, int k) {
        if (!areThere(coin, person) || k < NONE) {
            return NONE;
        }
        int acts = ways.find(now, coin, person);
        return k == NONE ? acts : ways.act(k);
    }

    public int best(int n, int what) {
        if (n < TEA_MIN || n > TEA_MAX || n > society.counts[PERSON]) {
            return NONE;
        }
        int bestPeople = NONE;
        int bestFlow = NONE;
        int all = society.allPeople();
        for (int people = 0; people <= all; people++) {
            if (Integer.bitCount(people) == n) {
                trial.ledger.copyFrom(now.ledger);
                trial.takeTea(people);
                int flow = trial.flow();
                if (flow > bestFlow) {
                    bestFlow = flow;
                    bestPeople = people;
                }
            }
        }
        switch (what) {
            case 0: return bestPeople;
            case 1: return bestFlow;
            default: return NONE;
        }
    }

    // ---- letters, purses, days ahead

    public int letters() {
        int length = tapeLength;
        tapeLength = 0;
        if (!tellsLetters(length)) {
            return refuse(BY_REST);
        }
        letterCount = length / 2;
        int wrong = 0;
        for (int k = 0; k < letterCount && k < LETTERS_MAX; k++) {
            letterVerdicts[k] = now.letterVerdict(tapeByte(2 * k), tapeByte(2 * k + 1));
            if (letterVerdicts[k] != 0) {
                wrong++;
            }
        }
        return wrong;
    }

    private boolean tellsLetters(int length) {
        if (length < 2 || length > 2 * LETTERS_MAX || length % 2 != 0) {
            return false;
        }
        for (int k = 0; k < length; k += 2) {
            if (!areThere(tapeByte(k), tapeByte(k + 1))) {
                return false;
            }
        }
        return true;
    }

    public int letterIs(int k) {
        return k >= 0 && k < letterCount && k < LETTERS_MAX ? letterVerdicts[k] : NONE;
    }

    public int fair(int person, int what) {
        if (!society.isThere(PERSON, person)) {
            return NONE;
        }
        int held = now.heldBy(person);
        int purse = society.fairPurse(held);
        switch (what) {
            case 0: return purse;
            case 1: return society.difference(purse, held);
            default: return NONE;
        }
    }

    public int later(int coin, int n) {
        if (!society.isThere(COIN, coin) || n < 0 || n > AHEAD_MAX || now.ledger.day + n > DAY_MAX) {
            return NONE;
        }
        trial.ledger.copyFrom(now.ledger);
        trial.passDays(n);
        return trial.ledger.known[coin];
    }

    public int useless(int what) {
        trial.ledger.copyFrom(now.ledger);
        for (int n = 0; n <= AHEAD_MAX && now.ledger.day + n <= DAY_MAX; n++) {
            if (n > 0) {
                trial.passDays(1);
            }
            int purses = trial.uselessPurses();
            if (purses != 0) {
                switch (what) {
                    case 0: return trial.ledger.day;
                    case 1: return Integer.numberOfTrailingZeros(purses);
                    default: return NONE;
                }
            }
        }
        return NONE;
    }

    // ---- images, refusals

    public int image() {
        Ledger ledger = now.ledger;
        imageLength = 0;
        putImageByte(ledger.day >> 8);
        putImageByte(ledger.day & 255);
        for (int coin = 0; coin < society.counts[COIN]; coin++) {
            putImageByte(ledger.holders[coin]);
            for (int person = 0; person < society.counts[PERSON]; person++) {
                putImageByte(now.standing(coin, person));
            }
        }
        int sum = 103;
        for (int k = 0; k < imageLength; k++) {
            sum = (5 * sum + (image[k] & 255)) % 251;
        }
        putImageByte(sum);
        return imageLength;
    }

    private void putImageByte(int value) {
        if (imageLength < IMAGE_MAX) {
            image[imageLength] = (byte) value;
            imageLength++;
        }
    }

    public int octet(int k) {
        return k >= 0 && k < imageLength && k < IMAGE_MAX ? image[k] & 255 : NONE;
    }

    public boolean on() {
        int length = tapeLength;
        tapeLength = 0;
        if (!tellsImage(length)) {
            refuse(BY_REST);
            return false;
        }
        Ledger ledger = now.ledger;
        ledger.day = tapeDay();
        for (int coin = 0; coin < society.counts[COIN]; coin++) {
            int row = imageRow(coin);
            ledger.holders[coin] = tapeByte(row);
            ledger.known[coin] = 0;
            ledger.snubs[coin] = 0;
            for (int person = 0; person < society.counts[PERSON]; person++) {
                now.stand(coin, person, tapeByte(row + 1 + person));
            }
        }
        history.clear();
        return true;
    }

    private int tapeDay() {
        return tapeByte(0) << 8 | tapeByte(1);
    }

    private int imageRow(int coin) {
        return 2 + coin * (1 + society.counts[PERSON]);
    }

    private boolean tellsImage(int length) {
        if (length != imageRow(society.counts[COIN]) + 1 || tapeDay() > DAY_MAX) {
            return false;
        }
        for (int coin = 0; coin < society.counts[COIN]; coin++) {
            if (!tellsCoin(imageRow(coin))) {
                return false;
            }
        }
        int sum = 103;
        for (int k = 0; k < length - 1; k++) {
            sum = (5 * sum + tapeByte(k)) % 251;
        }
        return tapeByte(length - 1) == sum;
    }

    private boolean tellsCoin(int row) {
        int holder = tapeByte(row);
        if (!society.isThere(PERSON, holder) || tapeByte(row + 1 + holder) < 2) {
            return false;
        }
        int highest = 2 + Math.min(AGO_MAX, tapeDay());
        for (int person = 0; person < society.counts[PERSON]; person++) {
            int standing = tapeByte(row + 1 + person);
            // 0 and 1 are no DAYS ago: they stand on every DAY
            if (standing > highest) {
                return false;
            }
        }
        return true;
    }

    public int status(int what) {
        return what >= 0 && what < REFUSALS ? refused[what] : NONE;
    }

    private int refuse(int whom) {
        if (whom >= 0 && whom < REFUSALS) {
            refused[whom]++;
        }
        return NONE;
    }

    private boolean areThere(int coin, int person) {
        return society.isThere(COIN, coin) && society.isThere(PERSON, person);
    }

    private boolean areTwo(int person, int other) {
        return society.isThere(PERSON, person) && society.isThere(PERSON, other) && person != other;
    }

    /** Letter k of a word that is kept as a number, five bits a letter, the first one lowest. */
    private static int letterOf(long word, int k) {
        return (int) (word >> (5 * k)) & 31;
    }

    private static boolean isIn(int bits, int k) {
        return k >= 0 && k < 31 && (bits >> k & 1) != 0;
    }

    // the kinds of what the scanner reads
    private static final int AT_END = 0;
    private static final int SIGN = 1;
    private static final int NUMBER = 2;
    private static final int NAME = 3;
    private static final int OWN_WORD = 4;
    private static final int NOTHING_KNOWN = 5;

    private static final String SIGNS = ";[]()<>=+-*/%,";
    private static final String OWN_WORDS =
        "person rank coin worth of knows goods by snub fades vogue presents price other circle day holds or and not all min max ";
    private static final int OWN_WORD_COUNT = 23;

    // the OWN WORDS by their places in OWN_WORDS
    private static final int W_PERSON = 0;
    private static final int W_RANK = 1;
    private static final int W_COIN = 2;
    private static final int W_WORTH = 3;
    private static final int W_OF = 4;
    private static final int W_KNOWS = 5;
    private static final int W_GOODS = 6;
    private static final int W_BY = 7;
    private static final int W_SNUB = 8;
    private static final int W_FADES = 9;
    private static final int W_VOGUE = 10;
    private static final int W_PRESENTS = 11;
    private static final int W_PRICE = 12;
    private static final int W_OTHER = 13;
    private static final int W_CIRCLE = 14;
    private static final int W_DAY = 15;
    private static final int W_HOLDS = 16;
    private static final int W_OR = 17;
    private static final int W_AND = 18;
    private static final int W_NOT = 19;
    private static final int W_ALL = 20;
    private static final int W_MIN = 21;
    private static final int W_MAX = 22;

    /** Reads the tape as words, numbers and signs, all of them at once; then they are looked at one by one. */
    private static final class Scanner {
        private final long[] ownWords = new long[OWN_WORD_COUNT];
        private final int[] kinds = new int[TAPE_MAX + 1];
        private final int[] values = new int[TAPE_MAX + 1];
        private final int[] starts = new int[TAPE_MAX + 1];
        private final int[] places = new int[TAPE_MAX + 1];
        private int count;
        private int looked;
        private int at;

        /** Of the one that is looked at: its kind, */
        int kind;
        /** the number, the sign, which OWN WORD, or the NAME as letterOf takes it, */
        int value;
        /** where it begins, */
        int start;
        /** and where it is at fault, if it can't stand here. */
        int place;

        Scanner() {
            int word = 0;
            int k = 0;
            for (int i = 0; i < OWN_WORDS.length(); i++) {
                char c = OWN_WORDS.charAt(i);
                if (c == ' ') {
                    word++;
                    k = 0;
                } else if (word < OWN_WORD_COUNT) {
                    ownWords[word] |= (long) (c - 'a' + 1) << (5 * k);
                    k++;
                }
            }
        }

        /** Reads as far as all is known, and looks at the first one. */
        void read(byte[] text, int textLength) {
            int length = Math.max(0, Math.min(textLength, Math.min(TAPE_MAX, text.length)));
            count = 0;
            at = 0;
            kind = SIGN;
            for (int n = 0; n <= TAPE_MAX && kind != AT_END && kind != NOTHING_KNOWN; n++) {
                readOne(text, length);
                kinds[n] = kind;
                values[n] = value;
                starts[n] = start;
                places[n] = place;
                count++;
            }
            looked = NONE;
            next();
        }

        /** Looks at the next one; the last one, the end or what is not known, stays. */
        void next() {
            if (looked + 1 < count && looked + 1 <= TAPE_MAX) {
                looked++;
                kind = kinds[looked];
                value = values[looked];
                start = starts[looked];
                place = places[looked];
            }
        }

        private void readOne(byte[] text, int length) {
            boolean needsBlank = kind == NUMBER || kind == NAME || kind == OWN_WORD;
            int from = at;
            skipBlanks(text, length);
            needsBlank = needsBlank && at == from;
            start = at;
            place = at;
            value = 0;
            if (at >= length) {
                kind = AT_END;
            } else if (isLetter(text[at])) {
                readWord(text, length);
            } else if (isDigit(text[at])) {
                readNumber(text, length);
            } else {
                value = text[at];
                kind = value > 0 && SIGNS.indexOf((char) value) >= 0 ? SIGN : NOTHING_KNOWN;
                at++;
            }
            if (needsBlank && kind != SIGN && kind != AT_END) {
                // the wanting blank is told ahead of a letter or digit too many further on
                kind = NOTHING_KNOWN;
                place = start;
            }
        }

        private void skipBlanks(byte[] text, int length) {
            for (; at < length; at++) {
                if (text[at] != 10 && text[at] != 32) {
                    return;
                }
            }
        }

        private void readWord(byte[] text, int length) {
            long word = 0;
            int letters = 0;
            for (; at < length && isLetter(text[at]); at++) {
                if (letters < OWN_LETTERS) {
                    word |= (long) (text[at] - 'a' + 1) << (5 * letters);
                }
                letters++;
            }
            int own = letters <= OWN_LETTERS ? ownWordOf(word) : NONE;
            if (own != NONE) {
                kind = OWN_WORD;
                value = own;
            } else if (letters > NAME_LETTERS) {
                kind = NOTHING_KNOWN;
                place = start + NAME_LETTERS;
            } else {
                kind = NAME;
                value = (int) word;
            }
        }

        private int ownWordOf(long word) {
            for (int k = 0; k < OWN_WORD_COUNT; k++) {
                if (ownWords[k] == word) {
                    return k;
                }
            }
            return NONE;
        }

        private void readNumber(byte[] text, int length) {
            int digits = 0;
            for (; at < length && isDigit(text[at]); at++) {
                if (digits < NUMBER_DIGITS) {
                    value = 10 * value + text[at] - '0';
                }
                digits++;
            }
            kind = NUMBER;
            if (digits > NUMBER_DIGITS) {
                kind = NOTHING_KNOWN;
                place = start + NUMBER_DIGITS;
            }
        }

        private static boolean isLetter(byte b) {
            return b >= 'a' && b <= 'z';
        }

        private static boolean isDigit(byte b) {
            return b >= '0' && b <= '9';
        }

        boolean isSign(char sign) {
            return kind == SIGN && value == sign;
        }

        boolean isOwnWord(int word) {
            return kind == OWN_WORD && value == word;
        }
    }

    // what a FORMULA is made of, beside numbers from 0 on: facts from LAST_FACT to -1 (-1 - which), deeds below
    private static final int FACTS = 6;
    private static final int LAST_FACT = -6;
    private static final int AND = -7;
    private static final int OR = -8;
    private static final int NOT = -9;
    private static final int MIN = -10;
    private static final int MAX = -11;
    private static final int LESS = -12;
    private static final int MORE = -13;
    private static final int SAME = -14;
    private static final int PLUS = -15;
    private static final int MINUS = -16;
    private static final int TIMES = -17;
    private static final int PER = -18;
    private static final int LEFT = -19;

    /** A TEST or a SUM, each deed behind what it is done to. */
    private static final class Formula {
        // at most five wait at each of eight depths: one each of or, and, SIGN, + and *
        private static final int WAITING_MAX = 64;

        private final int[] cells = new int[TAPE_MAX];
        private int size;
        private final int[] waiting = new int[WAITING_MAX];

        void clear() {
            size = 0;
        }

        boolean isTold() {
            return size > 0;
        }

        void add(int cell) {
            if (size < TAPE_MAX) {
                cells[size] = cell;
                size++;
            }
        }

        int value(int[] facts) {
            int top = 0;
            for (int i = 0; i < size && i < TAPE_MAX; i++) {
                int cell = cells[i];
                if (cell >= LAST_FACT) {
                    if (top < WAITING_MAX) {
                        waiting[top] = cell >= 0 ? cell : factOf(facts, -1 - cell);
                        top++;
                    }
                } else if (cell == NOT) {
                    if (top >= 1) {
                        waiting[top - 1] = 1 - waiting[top - 1];
                    }
                } else if (top >= 2) {
                    top--;
                    waiting[top - 1] = bounded(done(cell, waiting[top - 1], waiting[top]));
                }
            }
            return top > 0 ? waiting[0] : 0;
        }

        private static int factOf(int[] facts, int k) {
            return k >= 0 && k < facts.length ? facts[k] : 0;
        }

        private static long done(int deed, long a, long b) {
            switch (deed) {
                case AND: return a & b;
                case OR: return a | b;
                case MIN: return Math.min(a, b);
                case MAX: return Math.max(a, b);
                case LESS: return a < b ? 1 : 0;
                case MORE: return a > b ? 1 : 0;
                case SAME: return a == b ? 1 : 0;
                case PLUS: return a + b;
                case MINUS: return a - b;
                case TIMES: return a * b;
                case PER: return b == 0 ? 0 : Math.floorDiv(a, b);
                case LEFT: return b == 0 ? 0 : Math.floorMod(a, b);
                default: return 0;
            }
        }

        private static int bounded(long result) {
            return (int) Math.max(-RESULT_MAX, Math.min(RESULT_MAX, result));
        }
    }

    /** A SOCIETY as it is told: what no ACT changes, and how its COINS stand at first. */
    private static final class Society {
        private static final int ROW = 12;

        final int[] counts = new int[SORTS];
        private final int[] names = new int[SORTS * ROW];
        final int[] ranks = new int[PEOPLE_MAX];
        final int[] worths = new int[COINS_MAX];
        final int[] holders = new int[COINS_MAX];
        final int[] known = new int[COINS_MAX];
        final int[] snubs = new int[COINS_MAX];
        final int[] goodsWorths = new int[GOODS_MAX];
        final int[] sellers = new int[GOODS_MAX];
        final Formula presents = new Formula();
        final Formula price = new Formula();
        int fades;
        int vogue;

        void clear() {
            counts[PERSON] = 0;
            counts[COIN] = 0;
            counts[GOODS] = 0;
            presents.clear();
            price.clear();
            fades = 0;
            vogue = 0;
        }

        static int most(int sort) {
            return sort == PERSON ? PEOPLE_MAX : sort == COIN ? COINS_MAX : GOODS_MAX;
        }

        boolean isFull(int sort) {
            return sort < 0 || sort >= SORTS || counts[sort] >= most(sort);
        }

        boolean isThere(int sort, int which) {
            return sort >= 0 && sort < SORTS && which >= 0 && which < counts[sort];
        }

        int nameOf(int sort, int which) {
            return isThere(sort, which) ? names[sort * ROW + which] : 0;
        }

        int find(int sort, int name) {
            for (int which = 0; which < ROW && isThere(sort, which); which++) {
                if (names[sort * ROW + which] == name) {
                    return which;
                }
            }
            return NONE;
        }

        boolean isGiven(int name) {
            return find(PERSON, name) != NONE || find(COIN, name) != NONE || find(GOODS, name) != NONE;
        }

        /** Gives the NAME to the next one of its sort: which one that is; NONE without room. */
        int give(int sort, int name) {
            if (isFull(sort)) {
                return NONE;
            }
            int which = counts[sort];
            names[sort * ROW + which] = name;
            counts[sort]++;
            return which;
        }

        int allPeople() {
            return (1 << counts[PERSON]) - 1;
        }

        int worthOf(int coins) {
            int sum = 0;
            for (int coin = 0; coin < counts[COIN]; coin++) {
                if (isIn(coins, coin)) {
                    sum += worths[coin];
                }
            }
            return sum;
        }

        int difference(int purse, int held) {
            return Math.abs(worthOf(held) - 2 * worthOf(purse));
        }

        int fairPurse(int held) {
            int best = 0;
            int purse = 0;
            int least = difference(0, held);
            // the purses of held from the least bits on; behind the last one comes 0 again
            for (int n = 0; n < 1 << COINS_MAX; n++) {
                purse = (purse - held) & held;
                if (purse == 0) {
                    return best;
                }
                int differ = difference(purse, held);
                if (differ < least) {
                    least = differ;
                    best = purse;
                }
            }
            return best;
        }

        /** Of these COINS the fewest, then least bits, that are together worth so much; NONE without. */
        int fewestWorth(int coins, int sum) {
            int best = NONE;
            int fewest = COINS_MAX + 1;
            int purse = 0;
            for (int n = 0; n < 1 << COINS_MAX; n++) {
                int count = Integer.bitCount(purse);
                if (count < fewest && worthOf(purse) == sum) {
                    fewest = count;
                    best = purse;
                }
                purse = (purse - coins) & coins;
                if (purse == 0) {
                    return best;
                }
            }
            return best;
        }
    }

    /** Tells a SOCIETY from the tape, or where its first FAULT is. */
    private static final class Teller {
        private final Scanner scan = new Scanner();
        private Society draft = new Society();
        private Formula formula = draft.presents;
        private int open;
        int fault;
        int place = NONE;

        /** Hands out the SOCIETY that was told last, and keeps the given one's room for the next. */
        Society exchange(Society old) {
            Society told = draft;
            draft = old;
            formula = old.presents;
            return told;
        }

        /** How many STATEMENTS; NONE with a FAULT. */
        int tell(byte[] tape, int length) {
            draft.clear();
            open = 0;
            fault = 0;
            place = NONE;
            scan.read(tape, length);
            int statements = 0;
            for (; statements < TAPE_MAX && scan.kind != AT_END; statements++) {
                if (statements == STATEMENTS_MAX) {
                    fail(TOO_MANY);
                    return NONE;
                }
                if (!statement() || !sign(';')) {
                    return NONE;
                }
            }
            return statements;
        }

        private boolean statement() {
            switch (scan.kind == OWN_WORD ? scan.value : NONE) {
                case W_PERSON: return tellPerson();
                case W_COIN: return tellCoin();
                case W_GOODS: return tellGoods();
                case W_SNUB: return tellSnub();
                case W_FADES: return tellFades();
                case W_VOGUE: return tellVogue();
                case W_PRESENTS: return tellPresents();
                case W_PRICE: return tellPrice();
                default: return fail(NO_SOCIETY);
            }
        }

        private boolean tellPerson() {
            int person = newOne(PERSON);
            if (person == NONE || !word(W_RANK)) {
                return false;
            }
            int rank = number(0, 9);
            draft.ranks[person] = rank;
            return rank != NONE;
        }

        private boolean tellCoin() {
            int coin = newOne(COIN);
            if (coin == NONE || !word(W_WORTH)) {
                return false;
            }
            int worth = number(1, 99);
            if (worth == NONE || !word(W_OF)) {
                return false;
            }
            int holder = asked(PERSON, 0);
            if (holder == NONE) {
                return false;
            }
            draft.worths[coin] = worth;
            draft.holders[coin] = holder;
            draft.known[coin] = 1 << holder;
            draft.snubs[coin] = 0;
            return !scan.isOwnWord(W_KNOWS) || tellKnown(coin);
        }

        private boolean tellKnown(int coin) {
            scan.next();
            int names = 0;
            for (; names < TAPE_MAX && (names == 0 || scan.kind == NAME); names++) {
                int person = asked(PERSON, draft.known[coin]);
                if (person == NONE) {
                    return false;
                }
                draft.known[coin] |= 1 << person;
            }
            return true;
        }

        private boolean tellGoods() {
            int goods = newOne(GOODS);
            if (goods == NONE || !word(W_WORTH)) {
                return false;
            }
            int worth = number(0, 99);
            if (worth == NONE || !word(W_BY)) {
                return false;
            }
            int seller = asked(PERSON, 0);
            draft.goodsWorths[goods] = worth;
            draft.sellers[goods] = seller;
            return seller != NONE;
        }

        private boolean tellSnub() {
            scan.next();
            int coin = asked(COIN, 0);
            if (coin == NONE) {
                return false;
            }
            int person = asked(PERSON, draft.known[coin] | draft.snubs[coin]);
            if (person == NONE) {
                return false;
            }
            draft.snubs[coin] |= 1 << person;
            return true;
        }

        private boolean tellFades() {
            scan.next();
            draft.fades = number(0, 99);
            return draft.fades != NONE;
        }

        private boolean tellVogue() {
            scan.next();
            draft.vogue = number(0, 100);
            return draft.vogue != NONE;
        }

        private boolean tellPresents() {
            if (draft.presents.isTold()) {
                return fail(TOO_MANY);
            }
            scan.next();
            formula = draft.presents;
            return test();
        }

        private boolean tellPrice() {
            if (draft.price.isTold()) {
                return fail(TOO_MANY);
            }
            scan.next();
            formula = draft.price;
            return sum();
        }

        private boolean fail(int kind) {
            fault = kind;
            place = kind == NO_SOCIETY ? scan.place : scan.start;
            return false;
        }

        private boolean sign(char sign) {
            if (!scan.isSign(sign)) {
                return fail(NO_SOCIETY);
            }
            scan.next();
            return true;
        }

        private boolean word(int word) {
            if (!scan.isOwnWord(word)) {
                return fail(NO_SOCIETY);
            }
            scan.next();
            return true;
        }

        /** The NUMBER that stands here; NONE with a FAULT. */
        private int number(int least, int most) {
            if (scan.kind != NUMBER) {
                fail(NO_SOCIETY);
                return NONE;
            }
            int number = scan.value;
            if (number < least || number > most) {
                fail(NUMBER_WRONG);
                return NONE;
            }
            scan.next();
            return number;
        }

        /** The next one of its sort, by the NAME that stands behind the STATEMENT's first word; NONE with a FAULT. */
        private int newOne(int sort) {
            if (draft.isFull(sort)) {
                fail(TOO_MANY);
                return NONE;
            }
            scan.next();
            if (scan.kind != NAME) {
                fail(NO_SOCIETY);
                return NONE;
            }
            int name = scan.value;
            if (draft.isGiven(name)) {
                fail(NAME_GIVEN);
                return NONE;
            }
            scan.next();
            return draft.give(sort, name);
        }

        /** Which one of its sort, none of the barred ones (bits), the NAME here is; NONE with a FAULT. */
        private int asked(int sort, int barred) {
            if (scan.kind != NAME) {
                fail(NO_SOCIETY);
                return NONE;
            }
            int which = draft.find(sort, scan.value);
            if (which == NONE || isIn(barred, which)) {
                fail(NAME_WRONG);
                return NONE;
            }
            scan.next();
            return which;
        }

        /** Goes past the ( [ not that stands here, if it is not the 8th that is open: this bounds the depth of all below. */
        private boolean enter() {
            if (open >= OPEN_MAX) {
                return fail(TOO_DEEP);
            }
            open++;
            scan.next();
            return true;
        }

        private boolean test() {
            if (!both()) {
                return false;
            }
            for (int n = 0; n < TAPE_MAX && scan.isOwnWord(W_OR); n++) {
                scan.next();
                if (!both()) {
                    return false;
                }
                formula.add(OR);
            }
            return true;
        }

        private boolean both() {
            if (!fact()) {
                return false;
            }
            for (int n = 0; n < TAPE_MAX && scan.isOwnWord(W_AND); n++) {
                scan.next();
                if (!fact()) {
                    return false;
                }
                formula.add(AND);
            }
            return true;
        }

        private boolean fact() {
            if (scan.isOwnWord(W_NOT)) {
                return notFact();
            }
            if (scan.isSign('[')) {
                return inBrackets();
            }
            if (scan.isOwnWord(W_ALL)) {
                scan.next();
                formula.add(1);
                return true;
            }
            if (!sum()) {
                return false;
            }
            int deed = comparison();
            if (deed == NONE) {
                return fail(NO_SOCIETY);
            }
            scan.next();
            if (!sum()) {
                return false;
            }
            formula.add(deed);
            return true;
        }

        private boolean inBrackets() {
            if (!enter() || !test()) {
                return false;
            }
            open--;
            return sign(']');
        }

        private boolean notFact() {
            if (!enter() || !fact()) {
                return false;
            }
            open--;
            formula.add(NOT);
            return true;
        }

        private boolean sum() {
            if (!product()) {
                return false;
            }
            for (int n = 0; n < TAPE_MAX && (scan.isSign('+') || scan.isSign('-')); n++) {
                int deed = scan.isSign('+') ? PLUS : MINUS;
                scan.next();
                if (!product()) {
                    return false;
                }
                formula.add(deed);
            }
            return true;
        }

        private boolean product() {
            if (!part()) {
                return false;
            }
            int deed = productDeed();
            for (int n = 0; n < TAPE_MAX && deed != NONE; n++) {
                scan.next();
                if (!part()) {
                    return false;
                }
                formula.add(deed);
                deed = productDeed();
            }
            return true;
        }

        private boolean part() {
            if (scan.kind == NUMBER) {
                formula.add(scan.value);
                scan.next();
                return true;
            }
            if (scan.isSign('(')) {
                return inParentheses();
            }
            if (scan.isOwnWord(W_MIN) || scan.isOwnWord(W_MAX)) {
                return oneOfTwo(scan.isOwnWord(W_MIN) ? MIN : MAX);
            }
            int which = factWord();
            if (which == NONE) {
                return fail(NO_SOCIETY);
            }
            formula.add(-1 - which);
            scan.next();
            return true;
        }

        private boolean inParentheses() {
            if (!enter() || !sum()) {
                return false;
            }
            open--;
            return sign(')');
        }

        private boolean oneOfTwo(int deed) {
            scan.next();
            if (!scan.isSign('(')) {
                return fail(NO_SOCIETY);
            }
            if (!enter() || !sum() || !sign(',') || !sum()) {
                return false;
            }
            open--;
            formula.add(deed);
            return sign(')');
        }

        private int comparison() {
            return scan.isSign('<') ? LESS : scan.isSign('>') ? MORE : scan.isSign('=') ? SAME : NONE;
        }

        private int productDeed() {
            return scan.isSign('*') ? TIMES : scan.isSign('/') ? PER : scan.isSign('%') ? LEFT : NONE;
        }

        /** Which fact the word here asks for, as Circle puts them; NONE if it is no such word. */
        private int factWord() {
            switch (scan.kind == OWN_WORD ? scan.value : NONE) {
                case W_WORTH: return 0;
                case W_RANK: return 1;
                case W_OTHER: return 2;
                case W_CIRCLE: return 3;
                case W_DAY: return 4;
                case W_HOLDS: return 5;
                default: return NONE;
            }
        }
    }

    /** All that ACTS change, but the seed. */
    private static final class Ledger {
        int day;
        final int[] holders = new int[COINS_MAX];
        final int[] known = new int[COINS_MAX];
        final int[] snubs = new int[COINS_MAX];
        private final int[] met = new int[COINS_MAX * PEOPLE_MAX];

        void copyFrom(Ledger other) {
            day = other.day;
            System.arraycopy(other.holders, 0, holders, 0, COINS_MAX);
            System.arraycopy(other.known, 0, known, 0, COINS_MAX);
            System.arraycopy(other.snubs, 0, snubs, 0, COINS_MAX);
            System.arraycopy(other.met, 0, met, 0, COINS_MAX * PEOPLE_MAX);
        }

        int metOn(int coin, int person) {
            int k = coin * PEOPLE_MAX + person;
            return k >= 0 && k < COINS_MAX * PEOPLE_MAX ? met[k] : NONE;
        }

        void setMet(int coin, int person, int metDay) {
            int k = coin * PEOPLE_MAX + person;
            if (k >= 0 && k < COINS_MAX * PEOPLE_MAX) {
                met[k] = metDay;
            }
        }
    }

    /** The ledgers ahead of the last ACTS. */
    private static final class History {
        private final Ledger[] ledgers = new Ledger[UNDO_MAX];
        private int next;
        int count;

        History() {
            for (int k = 0; k < UNDO_MAX; k++) {
                ledgers[k] = new Ledger();
            }
        }

        void clear() {
            count = 0;
        }

        void keep(Ledger ledger) {
            ledgers[next].copyFrom(ledger);
            next = (next + 1) % UNDO_MAX;
            count = Math.min(UNDO_MAX, count + 1);
        }

        void giveBack(Ledger ledger) {
            next = (next + UNDO_MAX - 1) % UNDO_MAX;
            ledger.copyFrom(ledgers[next]);
            count--;
        }
    }

    /** A SOCIETY's law at work on a ledger. Its callers look whether the COINS, PEOPLE and GOODS are there. */
    private static final class Circle {
        final Ledger ledger = new Ledger();
        Society society;
        private final int[] facts = new int[FACTS];

        Circle(Society society) {
            this.society = society;
        }

        void begin(Society told) {
            society = told;
            ledger.day = 0;
            for (int coin = 0; coin < COINS_MAX; coin++) {
                ledger.holders[coin] = told.holders[coin];
                ledger.known[coin] = told.known[coin];
                ledger.snubs[coin] = told.snubs[coin];
                for (int person = 0; person < PEOPLE_MAX; person++) {
                    ledger.setMet(coin, person, 0);
                }
            }
        }

        int coins() {
            return society.counts[COIN];
        }

        boolean knows(int coin, int person) {
            return isIn(ledger.known[coin], person);
        }

        int heldBy(int person) {
            int bits = 0;
            for (int coin = 0; coin < coins(); coin++) {
                if (ledger.holders[coin] == person) {
                    bits |= 1 << coin;
                }
            }
            return bits;
        }

        int knowing(int person) {
            int bits = 0;
            for (int coin = 0; coin < coins(); coin++) {
                if (knows(coin, person)) {
                    bits |= 1 << coin;
                }
            }
            return bits;
        }

        int snubbedBy(int person) {
            int bits = 0;
            for (int coin = 0; coin < coins(); coin++) {
                if (isIn(ledger.snubs[coin], person)) {
                    bits |= 1 << coin;
                }
            }
            return bits;
        }

        int flow() {
            int flow = 0;
            for (int coin = 0; coin < coins(); coin++) {
                flow += society.worths[coin] * (Integer.bitCount(ledger.known[coin]) - 1);
            }
            return flow;
        }

        int snubCount() {
            int count = 0;
            for (int coin = 0; coin < coins(); coin++) {
                count += Integer.bitCount(ledger.snubs[coin]);
            }
            return count;
        }

        int knowingAllCount() {
            int count = 0;
            for (int coin = 0; coin < coins(); coin++) {
                if (ledger.known[coin] == society.allPeople()) {
                    count++;
                }
            }
            return count;
        }

        boolean isUseless(int person) {
            int held = heldBy(person);
            for (int coin = 0; coin < coins(); coin++) {
                if (isIn(held, coin) && ledger.known[coin] != 1 << person) {
                    return false;
                }
            }
            return held != 0;
        }

        int uselessPurses() {
            int bits = 0;
            for (int person = 0; person < society.counts[PERSON]; person++) {
                if (isUseless(person)) {
                    bits |= 1 << person;
                }
            }
            return bits;
        }

        int canSpend(int person, int other) {
            return society.worthOf(heldBy(person) & knowing(other));
        }

        boolean canBePresented(int coin, int person) {
            return !knows(coin, person) && !isIn(ledger.snubs[coin], person);
        }

        boolean testHolds(int coin, int person) {
            int holder = ledger.holders[coin];
            return testWouldHold(coin, holder, person, Integer.bitCount(ledger.known[coin]),
                Integer.bitCount(heldBy(holder)));
        }

        /** The TEST of presents, if this one held the COIN, and it knew so many, and he held so many. */
        boolean testWouldHold(int coin, int holder, int other, int circle, int holds) {
            if (!society.presents.isTold()) {
                return true;
            }
            putFacts(society.worths[coin], holder, other, circle, holds);
            return society.presents.value(facts) != 0;
        }

        private void putFacts(int worth, int person, int other, int circle, int holds) {
            facts[0] = worth;
            facts[1] = society.ranks[person];
            facts[2] = society.ranks[other];
            facts[3] = circle;
            facts[4] = ledger.day;
            facts[5] = holds;
        }

        int priceFor(int goods, int person) {
            if (!society.price.isTold()) {
                return society.goodsWorths[goods];
            }
            int seller = society.sellers[goods];
            int held = heldBy(person);
            int circle = Integer.bitCount(held & knowing(seller));
            putFacts(society.goodsWorths[goods], person, seller, circle, Integer.bitCount(held));
            return Math.max(0, Math.min(PRICE_MAX, society.price.value(facts)));
        }

        private void meet(int coin, int person) {
            ledger.known[coin] |= 1 << person;
            ledger.setMet(coin, person, ledger.day);
        }

        /** Presents a COIN that can be PRESENTED: whether it knows him then. */
        boolean presentTo(int coin, int person) {
            if (testHolds(coin, person)) {
                meet(coin, person);
                return true;
            }
            ledger.snubs[coin] |= 1 << person;
            return false;
        }

        void payTo(int coin, int person) {
            meet(coin, ledger.holders[coin]);
            meet(coin, person);
            ledger.holders[coin] = person;
        }

        void payAll(int bits, int person) {
            for (int coin = 0; coin < coins(); coin++) {
                if (isIn(bits, coin)) {
                    payTo(coin, person);
                }
            }
        }

        /** The CHANGE when the buyer gives these COINS for the GOODS; NONE when they can't be BOUGHT so. */
        int changeOf(int buyer, int goods, int given) {
            int seller = society.sellers[goods];
            if (buyer == seller || (given & ~(heldBy(buyer) & knowing(seller))) != 0) {
                return NONE;
            }
            int above = society.worthOf(given) - priceFor(goods, buyer);
            if (above < 0) {
                return NONE;
            }
            return society.fewestWorth(heldBy(seller) & knowing(buyer), above);
        }

        /** How many got to be KNOWN. */
        int takeTea(int people) {
            int count = 0;
            for (int coin = 0; coin < coins(); coin++) {
                if (isIn(people, ledger.holders[coin])) {
                    for (int person = 0; person < society.counts[PERSON]; person++) {
                        if (isIn(people, person) && canBePresented(coin, person) && testHolds(coin, person)) {
                            meet(coin, person);
                            count++;
                        }
                    }
                }
            }
            return count;
        }

        /** How many were forgotten. */
        int passDays(int n) {
            int count = 0;
            for (int k = 0; k < n && ledger.day < DAY_MAX; k++) {
                ledger.day++;
                for (int coin = 0; coin < coins() && society.fades > 0; coin++) {
                    count += forget(coin);
                }
            }
            return count;
        }

        private int forget(int coin) {
            int count = 0;
            for (int person = 0; person < society.counts[PERSON]; person++) {
                boolean isOld = ledger.day - ledger.metOn(coin, person) >= society.fades;
                if (isOld && knows(coin, person) && person != ledger.holders[coin]) {
                    ledger.known[coin] &= ~(1 << person);
                    count++;
                }
            }
            return count;
        }

        /** The COINS (bits) of the INTRODUCTIONS for the sum; NONE when all are too few. */
        int introductions(int person, int other, int sum) {
            int held = heldBy(person);
            int reached = canSpend(person, other);
            int chosen = 0;
            for (int n = 0; n <= COINS_MAX; n++) {
                if (reached >= sum) {
                    return chosen;
                }
                // the worthiest ones are the fewest; of like worth the lowest one gives the least bits
                int coin = worthiest(held & ~chosen, other);
                if (coin == NONE) {
                    return NONE;
                }
                chosen |= 1 << coin;
                reached += society.worths[coin];
            }
            return NONE;
        }

        private int worthiest(int bits, int other) {
            int best = NONE;
            int most = 0;
            for (int coin = 0; coin < coins(); coin++) {
                if (isIn(bits, coin) && society.worths[coin] > most
                    && canBePresented(coin, other) && testHolds(coin, other)) {
                    most = society.worths[coin];
                    best = coin;
                }
            }
            return best;
        }

        /** 0 for a true LETTER, else why it is FALSE, as letterIs tells it. */
        int letterVerdict(int coin, int person) {
            if (knows(coin, person)) {
                return 1;
            }
            if (isIn(ledger.snubs[coin], person)) {
                return 2;
            }
            return testHolds(coin, person) ? 0 : 3;
        }

        /** How a COIN stands with a PERSON, as a byte of AN IMAGE. */
        int standing(int coin, int person) {
            if (knows(coin, person)) {
                return 2 + Math.min(AGO_MAX, ledger.day - ledger.metOn(coin, person));
            }
            return isIn(ledger.snubs[coin], person) ? 1 : 0;
        }

        /** Takes over such a byte, on the ledger's DAY. */
        void stand(int coin, int person, int standing) {
            if (standing >= 2) {
                ledger.known[coin] |= 1 << person;
                ledger.setMet(coin, person, ledger.day - (standing - 2));
            } else if (standing == 1) {
                ledger.snubs[coin] |= 1 << person;
            }
        }
    }

    /** Finds by which ACTS a COIN comes to a PERSON. */
    private static final class Ways {
        private static final int STATES = PEOPLE_MAX << PEOPLE_MAX;
        // whom it knows only grows, and once he has it nobody pays twice between two introductions
        private static final int ACTS_MAX = 2 * PEOPLE_MAX;
        private static final int START = -1;
        private static final int UNASKED = 0;
        private static final int HOLDS = 1;
        private static final int FAILS = 2;

        /** By state (who holds it, whom it knows): 0 not reached, START, or 1 and the ACT and ACTS_MAX times who held it. */
        private final int[] reached = new int[STATES];
        private final int[] queue = new int[STATES];
        private int queueLength;
        /** By who holds it, the other one, and how many it knows: what the TEST says. */
        private final int[] verdicts = new int[PEOPLE_MAX * PEOPLE_MAX * PEOPLE_MAX];
        private final int[] holds = new int[PEOPLE_MAX];
        private int people;
        /** The found ACTS, the last one first. */
        private final int[] acts = new int[ACTS_MAX];
        private int length = NONE;

        /** How many ACTS; NONE without a way. */
        int find(Circle circle, int coin, int goal) {
            begin(circle, coin);
            int holder = circle.ledger.holders[coin];
            int known = circle.ledger.known[coin];
            reach(holder, known, START);
            int found = holder == goal ? stateOf(holder, known) : NONE;
            for (int k = 0; k < queueLength && k < STATES && found == NONE; k++) {
                int state = queue[k];
                found = payFrom(state >> people, state & ((1 << people) - 1), goal);
                if (found == NONE) {
                    presentFrom(circle, coin, state);
                }
            }
            length = NONE;
            if (found != NONE) {
                trace(found);
            }
            return length;
        }

        /** The k-th ACT of the way found last; NONE without. */
        int act(int k) {
            int back = length - 1 - k;
            return k >= 0 && back >= 0 && back < ACTS_MAX ? acts[back] : NONE;
        }

        private void begin(Circle circle, int coin) {
            people = circle.society.counts[PERSON];
            for (int k = 0; k < people << people && k < STATES; k++) {
                reached[k] = 0;
            }
            Arrays.fill(verdicts, UNASKED);
            queueLength = 0;
            int holder = circle.ledger.holders[coin];
            for (int person = 0; person < PEOPLE_MAX; person++) {
                // he who gets it holds one more
                holds[person] = Integer.bitCount(circle.heldBy(person)) + (person == holder ? 0 : 1);
            }
        }

        private int stateOf(int holder, int known) {
            return holder << people | known;
        }

        private void reach(int holder, int known, int how) {
            int state = stateOf(holder, known);
            if (state >= 0 && state < STATES && reached[state] == 0 && queueLength < STATES) {
                reached[state] = how;
                queue[queueLength] = state;
                queueLength++;
            }
        }

        /** The state in which the goal holds it, if he can be paid; else NONE. */
        private int payFrom(int holder, int known, int goal) {
            if (isIn(known, goal)) {
                reach(goal, known, 1 + goal + ACTS_MAX * holder);
                return stateOf(goal, known);
            }
            for (int person = 0; person < people; person++) {
                if (person != holder && isIn(known, person)) {
                    reach(person, known, 1 + person + ACTS_MAX * holder);
                }
            }
            return NONE;
        }

        private void presentFrom(Circle circle, int coin, int state) {
            int holder = state >> people;
            int known = state & ((1 << people) - 1);
            int shut = known | circle.ledger.snubs[coin];
            for (int person = 0; person < people; person++) {
                if (!isIn(shut, person) && testHolds(circle, coin, holder, person, Integer.bitCount(known))) {
                    reach(holder, known | 1 << person, 1 + PEOPLE_MAX + person + ACTS_MAX * holder);
                }
            }
        }

        private boolean testHolds(Circle circle, int coin, int holder, int other, int known) {
            int k = (holder * PEOPLE_MAX + other) * PEOPLE_MAX + known - 1;
            if (k < 0 || k >= verdicts.length) {
                return false;
            }
            if (verdicts[k] == UNASKED) {
                verdicts[k] = circle.testWouldHold(coin, holder, other, known, holds[holder]) ? HOLDS : FAILS;
            }
            return verdicts[k] == HOLDS;
        }

        private void trace(int goal) {
            int state = goal;
            length = 0;
            for (int n = 0; n < ACTS_MAX && state >= 0 && state < STATES && reached[state] > 0; n++) {
                int how = reached[state] - 1;
                int act = how % ACTS_MAX;
                int known = state & ((1 << people) - 1);
                acts[n] = act;
                length++;
                state = stateOf(how / ACTS_MAX, act < PEOPLE_MAX ? known : known & ~(1 << (act - PEOPLE_MAX)));
            }
        }
    }
}
