/** A valley in which whatever anybody has is anyone's at the stroke of noon. The document's promises say what each call answers. */
public final class NoonSquare {
    public static final int NONE = -1;

    private static final int NO_SUCH = -2;
    private static final int SPENT = -2;
    private static final int NO_STANDING = -3;
    private static final int NO_ASKING = -1000000;

    private static final int MOST_TEXT = 1700;
    private static final int MOST_PLACES = 8;
    private static final int MOST_ROADS = 16;
    private static final int MOST_THINGS = 10;
    private static final int MOST_PEOPLE = 6;
    private static final int MOST_UNITS = 80;
    private static final int MOST_WITHIN = 6;
    private static final int MOST_DAYS = 10000;
    private static final int MOST_DAYS_AT_ONCE = 100;
    private static final int MOST_TRIAL_DAYS = 40;
    private static final int MOST_USED_DAYS = 30;
    private static final int MOST_TALES = 40;
    private static final int MOST_TIME = 100000;
    private static final int MOST_LATER = 1000;
    private static final int MOST_ROWS = 20000;
    private static final int KEPT_DAYS = 60;
    private static final int BOXES = 3;
    private static final int FULL = 100;
    private static final int HARDEST = 9;
    private static final int NO_WAY = 999;
    private static final int MINUTES_AHEAD = 60;
    private static final int MINUTES_LATE = 10;

    private static final int LAW_NEAR = 0;
    private static final int LAW_FORCE = 1;
    private static final int LAW_LOT = 2;

    private static final int FAULT_NO_TOKEN = 1;
    private static final int FAULT_MISPLACED = 2;
    private static final int FAULT_TOLD_ALREADY = 3;
    private static final int FAULT_NUMBER = 4;
    private static final int FAULT_NO_PLACE = 5;

    /** The words that stand for themselves, eight letters each; the first eleven are what a rule can ask of. */
    private static final String WORDS = "worth   left    heavy   far     mine    held    crowd   day     craft   force   noon    or      and     not     place   road    minutes thing   at      wear    food    person  hard    stands  law     near    lot     late    ";
    private static final int WORD_SIZE = 8;
    private static final int WORD_COUNT = 28;
    private static final int WORTH = 0;
    private static final int LEFT = 1;
    private static final int HEAVY = 2;
    private static final int FAR = 3;
    private static final int MINE = 4;
    private static final int HELD = 5;
    private static final int CROWD = 6;
    private static final int DAY = 7;
    private static final int CRAFT = 8;
    private static final int FORCE = 9;
    private static final int NOON = 10;
    private static final int FACTS = 11;
    private static final int OR = 11;
    private static final int AND = 12;
    private static final int NOT = 13;
    private static final int PLACE = 14;
    private static final int ROAD = 15;
    private static final int MINUTES = 16;
    private static final int THING = 17;
    private static final int AT = 18;
    private static final int WEAR = 19;
    private static final int FOOD = 20;
    private static final int PERSON = 21;
    private static final int HARD = 22;
    private static final int STANDS = 23;
    private static final int LAW = 24;
    private static final int NEAR = 25;
    private static final int LOT = 26;
    private static final int LATE = 27;

    private final Tape tape = new Tape();
    private final Valley told = new Valley();
    private final Valley draft = new Valley();
    private final Reader reader = new Reader(tape, draft);
    private final Now now = new Now();
    private final Day day = new Day(told);
    private final Trial trial = new Trial(told, day);
    private final Standings standings = new Standings(told, now);
    private final Tales tales = new Tales();
    private final Now[] boxes = new Now[BOXES];
    private final boolean[] boxIsFull = new boolean[BOXES];
    private int time;

    public NoonSquare() {
        for (int box = 0; box < BOXES; box++) {
            boxes[box] = new Now();
        }
    }

    public int feed(int a, int b, int c, int d, int e) {
        if (tape.length + 20 > MOST_TEXT) {
            return NONE;
        }
        tape.add(a);
        tape.add(b);
        tape.add(c);
        tape.add(d);
        tape.add(e);
        return tape.length;
    }

    public int end(int n) {
        if (n < 0 || n > tape.length) {
            return NONE;
        }
        tape.length = n;
        return n;
    }

    public int valley() {
        boolean fits = reader.readTape();
        tape.length = 0;
        if (!fits) {
            return NONE;
        }
        told.copyFrom(draft);
        now.beginIn(told);
        tales.count = 0;
        for (int box = 0; box < BOXES; box++) {
            boxIsFull[box] = false;
        }
        return told.people;
    }

    public int fault(int what) {
        switch (what) {
            case 0:
                return reader.fault;
            case 1:
                return reader.faultPlace;
            default:
                return NONE;
        }
    }

    public int run(int days) {
        if (days < 0 || days > MOST_DAYS_AT_ONCE || now.days + days > MOST_DAYS) {
            return NONE;
        }
        int sum = 0;
        for (int i = 0; i < days; i++) {
            sum += day.live(now, told.law);
        }
        return sum;
    }

    public int thing(int thing, int what) {
        if (!isThing(thing)) {
            return NO_SUCH;
        }
        switch (what) {
            case 0:
                return now.owner[thing];
            case 1:
                return now.left[thing];
            case 2:
                return now.crowd[thing];
            case 3:
                return now.eaten[thing] ? 1 : 0;
            case 4:
                return told.thingPlace[thing];
            case 5:
                return now.worth[thing];
            default:
                return NO_SUCH;
        }
    }

    public int person(int person, int what) {
        if (!isPerson(person)) {
            return NO_SUCH;
        }
        switch (what) {
            case 0:
                return now.at[person];
            case 1:
                return now.made[person];
            case 2:
                return thingsOf(person);
            case 3:
                day.remember(now);
                return day.aim(now, person, -MINUTES_AHEAD);
            default:
                return NO_SUCH;
        }
    }

    public int far(int a, int b) {
        return isPlace(a) && isPlace(b) ? told.land.minutes(a, b) : NONE;
    }

    public boolean give(int thing, int person) {
        if (!isThing(thing) || !isPersonOrNobody(person) || now.eaten[thing]) {
            return false;
        }
        now.owner[thing] = person;
        return true;
    }

    public int chip(int thing, int by) {
        if (!isThing(thing) || by < 0 || by > now.worth[thing]) {
            return NONE;
        }
        now.worth[thing] -= by;
        return now.worth[thing];
    }

    public int asks(int person, int thing) {
        if (!isPerson(person) || !isThing(thing)) {
            return NO_ASKING;
        }
        day.remember(now);
        return day.ask(now, person, thing);
    }

    public int chance(int thing, int person, int part) {
        if (!isThing(thing) || !isPersonOrNobody(person) || part < 0 || part > 1) {
            return NONE;
        }
        if (!trial.weigh(now, thing, person, 0)) {
            return NONE;
        }
        return part == 0 ? trial.upper : trial.lower;
    }

    public int rest(int what) {
        if (what < 0 || what > 2) {
            return NONE;
        }
        if (standings.isSpent()) {
            return SPENT;
        }
        standings.seek(NONE);
        if (what == 0) {
            return standings.count;
        }
        if (standings.count == 0) {
            return NONE;
        }
        return what == 1 ? standings.mostPay : standings.leastLost;
    }

    public int stands(int i, int person) {
        // Whether there is such a standing is not known of a valley that is spent, whatever was asked.
        if (standings.isSpent()) {
            return SPENT;
        }
        if (i < 0 || !isPerson(person)) {
            return NO_STANDING;
        }
        return standings.seek(i) ? standings.choice[person] : NO_STANDING;
    }

    public int made(int n, int by) {
        if (n < 0 || n > MOST_TRIAL_DAYS || by < 0 || by > 4) {
            return NONE;
        }
        if (by == 4) {
            return trial.madeKept(now, n);
        }
        return trial.madeBy(now, n, by == 0 ? told.law : by - 1);
    }

    public int law(int n) {
        if (n < 0 || n > MOST_TRIAL_DAYS) {
            return NONE;
        }
        int best = LAW_NEAR;
        int most = trial.madeBy(now, n, LAW_NEAR);
        for (int by = LAW_FORCE; by <= LAW_LOT; by++) {
            int sum = trial.madeBy(now, n, by);
            if (sum > most) {
                most = sum;
                best = by;
            }
        }
        return best;
    }

    public int used(int thing, int n, int c, int what) {
        if (!isThing(thing) || n < 1 || n > MOST_USED_DAYS || c < 0 || c > 100 || what < 0 || what > 1) {
            return NONE;
        }
        if (now.eaten[thing]) {
            return NONE;
        }
        int most = trial.useWell(now, thing, n, c);
        return what == 0 ? trial.hard : most;
    }

    public int keeps(int thing) {
        if (!isThing(thing) || now.owner[thing] == NONE) {
            return NONE;
        }
        int owner = now.owner[thing];
        for (int chip = 0; chip <= now.worth[thing]; chip++) {
            if (trial.weigh(now, thing, owner, chip) && trial.upper == trial.lower) {
                return chip;
            }
        }
        return NONE;
    }

    public int lift(int a, int b) {
        if (!isPerson(a) || !isPerson(b) || a == b) {
            return NONE;
        }
        int lifted = 0;
        for (int thing = 0; thing < told.things; thing++) {
            int heavy = told.heavy[thing];
            if (heavy > told.force[a] && heavy > told.force[b] && heavy <= told.force[a] + told.force[b]) {
                lifted |= 1 << thing;
            }
        }
        return lifted;
    }

    public int tour(int person) {
        if (!isPerson(person)) {
            return NONE;
        }
        int goals = 0;
        for (int thing = 0; thing < told.things; thing++) {
            if (!now.eaten[thing]) {
                goals |= 1 << told.thingPlace[thing];
            }
        }
        return told.land.mostNoons(now.at[person], goals);
    }

    public int since(int thing) {
        if (!isThing(thing) || now.owner[thing] == NONE || now.days < 1 || now.days > KEPT_DAYS) {
            return NONE;
        }
        int first = NONE;
        for (int d = now.days; d >= 1 && now.ownerBehind(d, thing) == now.owner[thing]; d--) {
            first = d;
        }
        return first;
    }

    public int tale(int day, int thing, int person) {
        if (day < 1 || day > KEPT_DAYS || !isThing(thing) || !isPersonOrNobody(person)) {
            return NONE;
        }
        return tales.add(day, thing, person, time);
    }

    public boolean untell(int tale) {
        return tales.takeBack(tale, time);
    }

    public int later(int by) {
        if (by < 0 || by > MOST_LATER || time + by > MOST_TIME) {
            return NONE;
        }
        time += by;
        return time;
    }

    public int judge(int what, int k) {
        switch (what) {
            case 0:
                return tales.countFalse(now, k);
            case 1:
                return tales.countOpen(now, k);
            case 2:
                return tales.firstFalse(now, k);
            case 3:
                return tales.firstDouble(k);
            default:
                return NONE;
        }
    }

    public int seed(int w) {
        int before = now.w;
        now.w = w;
        return before;
    }

    public int image(int box) {
        if (box < 0 || box >= BOXES) {
            return NONE;
        }
        boxes[box].copyFrom(now);
        boxIsFull[box] = true;
        return now.days;
    }

    public int back(int box) {
        if (box < 0 || box >= BOXES || !boxIsFull[box]) {
            return NONE;
        }
        now.copyFrom(boxes[box]);
        return now.days;
    }

    public int about(int what) {
        switch (what) {
            case 0:
                return told.land.places;
            case 1:
                return told.land.roads;
            case 2:
                return told.things;
            case 3:
                return told.people;
            case 4:
                return now.days;
            case 5:
                return tales.count;
            case 6:
                return time;
            case 7:
                return tape.length;
            case 8:
                return now.w;
            case 9:
                return told.rules.units;
            case 10:
                return now.lateDays;
            default:
                return NONE;
        }
    }

    private boolean isPlace(int place) {
        return place >= 0 && place < told.land.places;
    }

    private boolean isThing(int thing) {
        return thing >= 0 && thing < told.things;
    }

    private boolean isPerson(int person) {
        return person >= 0 && person < told.people;
    }

    private boolean isPersonOrNobody(int person) {
        return person == NONE || isPerson(person);
    }

    private int thingsOf(int person) {
        int sum = 0;
        for (int thing = 0; thing < told.things; thing++) {
            if (now.owner[thing] == person) {
                sum++;
            }
        }
        return sum;
    }

    /** The bytes that were fed and are no valley yet. */
    private static final class Tape {
        final byte[] bytes = new byte[MOST_TEXT];
        int length;

        void add(int four) {
            for (int shift = 24; shift >= 0 && length < MOST_TEXT; shift -= 8) {
                bytes[length] = (byte) (four >>> shift);
                length++;
            }
        }

        /** The byte at a place, 0 to 255; NONE beyond the end. */
        int byteAt(int place) {
            return place >= 0 && place < length ? bytes[place] & 255 : NONE;
        }
    }

    /** The tape's tokens, one after the other; the fields tell of the one that is next. */
    private static final class Tokens {
        static final int END = 0;
        static final int BAD = 1;
        static final int WORD = 2;
        static final int NAME = 3;
        static final int NUMBER = 4;
        static final int SIGN = 5;
        private static final int MOST_DIGITS = 4;

        private final Tape tape;
        /** The letters of WORDS, packed as a name's are. */
        private final long[] wordLetters = new long[WORD_COUNT];
        private int next;
        int kind;
        int place;
        /** A word's number, a number's value or a sign's byte. */
        int value;
        /** A name's letters, five bits each. */
        long letters;

        Tokens(Tape tape) {
            this.tape = tape;
            for (int i = 0; i < WORD_COUNT * WORD_SIZE; i++) {
                if (isLetter(WORDS.charAt(i))) {
                    int word = i / WORD_SIZE;
                    wordLetters[word] = withLetter(wordLetters[word], WORDS.charAt(i));
                }
            }
        }

        void begin() {
            next = 0;
            step();
        }

        void step() {
            skipBlanks();
            place = next;
            int first = tape.byteAt(next);
            if (first == NONE) {
                kind = END;
            } else if (isLetter(first)) {
                readWord();
            } else if (isDigit(first)) {
                readNumber();
            } else {
                kind = isSignByte(first) ? SIGN : BAD;
                value = first;
                next++;
            }
        }

        boolean isWord(int word) {
            return kind == WORD && value == word;
        }

        boolean isSign(int sign) {
            return kind == SIGN && value == sign;
        }

        private void skipBlanks() {
            while (next < tape.length && (tape.byteAt(next) == 32 || tape.byteAt(next) == 10)) {
                next++;
            }
        }

        private void readWord() {
            letters = 0;
            while (next < tape.length && isLetter(tape.byteAt(next))) {
                letters = withLetter(letters, tape.byteAt(next));
                next++;
            }
            if (next - place > WORD_SIZE) {
                kind = BAD;
                return;
            }
            kind = NAME;
            for (int word = 0; word < WORD_COUNT; word++) {
                if (wordLetters[word] == letters) {
                    kind = WORD;
                    value = word;
                }
            }
        }

        private void readNumber() {
            value = 0;
            while (next < tape.length && isDigit(tape.byteAt(next))) {
                value = value * 10 + (tape.byteAt(next) - '0');
                next++;
            }
            boolean fits = next - place <= MOST_DIGITS && !isLetter(tape.byteAt(next));
            kind = fits ? NUMBER : BAD;
        }

        private static long withLetter(long ahead, int letter) {
            return ahead * 32 + (letter - 'a' + 1);
        }

        private static boolean isLetter(int sign) {
            return sign >= 'a' && sign <= 'z';
        }

        private static boolean isDigit(int sign) {
            return sign >= '0' && sign <= '9';
        }

        private static boolean isSignByte(int sign) {
            switch (sign) {
                case ';':
                case '(':
                case ')':
                case '<':
                case '>':
                case '=':
                case '+':
                case '-':
                case '*':
                    return true;
                default:
                    return false;
            }
        }
    }

    /** Reads the tape as a valley; each method is false at a fault, which is always the token that is next. */
    private static final class Reader {
        private final Tokens tokens;
        private final Valley valley;
        private final Land land;
        private final Rules rules;
        private boolean lawIsTold;
        private boolean lateIsTold;
        /** A number that belongs into no row of the valley. */
        private final int[] single = new int[1];
        int fault;
        int faultPlace = NONE;

        Reader(Tape tape, Valley valley) {
            this.tokens = new Tokens(tape);
            this.valley = valley;
            this.land = valley.land;
            this.rules = valley.rules;
        }

        boolean readTape() {
            valley.clear();
            lawIsTold = false;
            lateIsTold = false;
            fault = 0;
            faultPlace = NONE;
            tokens.begin();
            boolean fits = true;
            for (int i = 0; i < MOST_TEXT && fits && tokens.kind != Tokens.END; i++) {
                fits = line();
            }
            if (fits) {
                land.measure();
            }
            return fits;
        }

        private boolean refuse(int why) {
            fault = tokens.kind == Tokens.BAD ? FAULT_NO_TOKEN : why;
            faultPlace = tokens.place;
            return false;
        }

        private boolean line() {
            if (tokens.kind != Tokens.WORD) {
                return refuse(FAULT_MISPLACED);
            }
            switch (tokens.value) {
                case PLACE:
                    return placeLine();
                case ROAD:
                    return roadLine();
                case THING:
                    return thingLine();
                case PERSON:
                    return personLine();
                case LAW:
                    return lawLine();
                case LATE:
                    return lateLine();
                default:
                    return refuse(FAULT_MISPLACED);
            }
        }

        private boolean placeLine() {
            int place = land.places;
            if (place >= MOST_PLACES) {
                return refuse(FAULT_MISPLACED);
            }
            tokens.step();
            if (!newName(land.names, place) || !number(land.noon, place, NOON, 0, 59)) {
                return false;
            }
            land.places++;
            return sign(';');
        }

        private boolean roadLine() {
            if (land.roads >= MOST_ROADS) {
                return refuse(FAULT_MISPLACED);
            }
            tokens.step();
            int from = placeHere();
            if (from == NONE) {
                return false;
            }
            tokens.step();
            int to = placeHere();
            if (to == NONE) {
                return false;
            }
            if (from == to || land.isJoined(from, to)) {
                return refuse(FAULT_TOLD_ALREADY);
            }
            tokens.step();
            if (!number(single, 0, MINUTES, 1, 99)) {
                return false;
            }
            land.join(from, to, single[0]);
            return sign(';');
        }

        private boolean thingLine() {
            int thing = valley.things;
            if (thing >= MOST_THINGS) {
                return refuse(FAULT_MISPLACED);
            }
            tokens.step();
            boolean fits = newName(valley.thingNames, thing)
                && atPlace(valley.thingPlace, thing)
                && number(valley.worth, thing, WORTH, 0, 99)
                && number(valley.wear, thing, WEAR, 0, 20)
                && number(valley.heavy, thing, HEAVY, 0, 99);
            if (!fits) {
                return false;
            }
            valley.isFood[thing] = tokens.isWord(FOOD);
            if (valley.isFood[thing]) {
                tokens.step();
            }
            valley.things++;
            return sign(';');
        }

        private boolean personLine() {
            int person = valley.people;
            if (person >= MOST_PEOPLE) {
                return refuse(FAULT_MISPLACED);
            }
            tokens.step();
            boolean fits = newName(valley.personNames, person)
                && atPlace(valley.personPlace, person)
                && number(valley.craft, person, CRAFT, 0, 9)
                && number(valley.force, person, FORCE, 0, 99)
                && number(valley.hard, person, HARD, 0, 9)
                && word(STANDS);
            if (!fits) {
                return false;
            }
            rules.start[person] = rules.length;
            if (!either(0)) {
                return false;
            }
            rules.end[person] = rules.length;
            valley.people++;
            return sign(';');
        }

        private boolean lawLine() {
            if (lawIsTold) {
                return refuse(FAULT_MISPLACED);
            }
            lawIsTold = true;
            tokens.step();
            if (tokens.isWord(NEAR)) {
                valley.law = LAW_NEAR;
            } else if (tokens.isWord(FORCE)) {
                valley.law = LAW_FORCE;
            } else if (tokens.isWord(LOT)) {
                valley.law = LAW_LOT;
            } else {
                return refuse(FAULT_MISPLACED);
            }
            tokens.step();
            return sign(';');
        }

        private boolean lateLine() {
            if (lateIsTold) {
                return refuse(FAULT_MISPLACED);
            }
            lateIsTold = true;
            if (!number(single, 0, LATE, 0, 100)) {
                return false;
            }
            valley.late = single[0];
            return sign(';');
        }

        private boolean word(int word) {
            if (!tokens.isWord(word)) {
                return refuse(FAULT_MISPLACED);
            }
            tokens.step();
            return true;
        }

        private boolean sign(int sign) {
            if (!tokens.isSign(sign)) {
                return refuse(FAULT_MISPLACED);
            }
            tokens.step();
            return true;
        }

        /** A word and its number, which goes into a row. */
        private boolean number(int[] row, int index, int word, int least, int most) {
            if (!tokens.isWord(word)) {
                return refuse(FAULT_MISPLACED);
            }
            tokens.step();
            if (tokens.kind != Tokens.NUMBER) {
                return refuse(FAULT_MISPLACED);
            }
            if (tokens.value < least || tokens.value > most) {
                return refuse(FAULT_NUMBER);
            }
            row[index] = tokens.value;
            tokens.step();
            return true;
        }

        private boolean newName(long[] names, int count) {
            if (tokens.kind != Tokens.NAME) {
                return refuse(FAULT_MISPLACED);
            }
            for (int i = 0; i < count; i++) {
                if (names[i] == tokens.letters) {
                    return refuse(FAULT_TOLD_ALREADY);
                }
            }
            names[count] = tokens.letters;
            tokens.step();
            return true;
        }

        private boolean atPlace(int[] row, int index) {
            if (!tokens.isWord(AT)) {
                return refuse(FAULT_MISPLACED);
            }
            tokens.step();
            int place = placeHere();
            if (place == NONE) {
                return false;
            }
            row[index] = place;
            tokens.step();
            return true;
        }

        /** The place whose name is next, which is not stepped over; NONE at a fault. */
        private int placeHere() {
            if (tokens.kind != Tokens.NAME) {
                refuse(FAULT_MISPLACED);
                return NONE;
            }
            for (int place = 0; place < land.places; place++) {
                if (land.names[place] == tokens.letters) {
                    return place;
                }
            }
            refuse(FAULT_NO_PLACE);
            return NONE;
        }

        /** The document's e; within: in how many units ( e ) and ones behind not it stands. */
        private boolean either(int within) {
            if (!both(within)) {
                return false;
            }
            for (int i = 0; i < MOST_TEXT && tokens.isWord(OR); i++) {
                tokens.step();
                if (!both(within)) {
                    return false;
                }
                rules.add(Rules.OR_STEP);
            }
            return true;
        }

        private boolean both(int within) {
            if (!one(within)) {
                return false;
            }
            for (int i = 0; i < MOST_TEXT && tokens.isWord(AND); i++) {
                tokens.step();
                if (!one(within)) {
                    return false;
                }
                rules.add(Rules.AND_STEP);
            }
            return true;
        }

        private boolean one(int within) {
            if (tokens.isWord(NOT)) {
                return negated(within);
            }
            if (!sum(within)) {
                return false;
            }
            if (!tokens.isSign('<') && !tokens.isSign('>') && !tokens.isSign('=')) {
                return true;
            }
            int step = Rules.SIGN_STEPS + tokens.value;
            tokens.step();
            if (!sum(within)) {
                return false;
            }
            rules.add(step);
            return true;
        }

        private boolean negated(int within) {
            if (within > MOST_WITHIN) {
                return refuse(FAULT_MISPLACED);
            }
            tokens.step();
            if (!one(within + 1)) {
                return false;
            }
            rules.add(Rules.NOT_STEP);
            return true;
        }

        private boolean sum(int within) {
            if (!term(within)) {
                return false;
            }
            for (int i = 0; i < MOST_TEXT && (tokens.isSign('+') || tokens.isSign('-')); i++) {
                int step = Rules.SIGN_STEPS + tokens.value;
                tokens.step();
                if (!term(within)) {
                    return false;
                }
                rules.add(step);
            }
            return true;
        }

        private boolean term(int within) {
            if (!unit(within)) {
                return false;
            }
            for (int i = 0; i < MOST_TEXT && tokens.isSign('*'); i++) {
                tokens.step();
                if (!unit(within)) {
                    return false;
                }
                rules.add(Rules.SIGN_STEPS + '*');
            }
            return true;
        }

        private boolean unit(int within) {
            boolean isNumber = tokens.kind == Tokens.NUMBER;
            boolean isFact = tokens.kind == Tokens.WORD && tokens.value < FACTS;
            boolean isOpen = tokens.isSign('(') && within <= MOST_WITHIN;
            if (rules.units >= MOST_UNITS || !isNumber && !isFact && !isOpen) {
                return refuse(FAULT_MISPLACED);
            }
            rules.units++;
            if (!isOpen) {
                rules.add(isNumber ? tokens.value : Rules.FACT_STEPS + tokens.value);
            }
            tokens.step();
            return !isOpen || enclosed(within + 1);
        }

        private boolean enclosed(int within) {
            if (!either(within)) {
                return false;
            }
            if (!tokens.isSign(')')) {
                return refuse(FAULT_MISPLACED);
            }
            tokens.step();
            return true;
        }
    }

    /** The places and the roads that join them. */
    private static final class Land {
        int places;
        int roads;
        final long[] names = new long[MOST_PLACES];
        final int[] noon = new int[MOST_PLACES];
        /** The places by noon, of like ones by number. */
        final int[] order = new int[MOST_PLACES];
        private final int[] table = new int[MOST_PLACES * MOST_PLACES];
        private final int[] chain = new int[MOST_PLACES];

        void clear() {
            places = 0;
            roads = 0;
            for (int i = 0; i < MOST_PLACES * MOST_PLACES; i++) {
                table[i] = i % (MOST_PLACES + 1) == 0 ? 0 : NO_WAY;
            }
        }

        void copyFrom(Land other) {
            places = other.places;
            roads = other.roads;
            System.arraycopy(other.noon, 0, noon, 0, MOST_PLACES);
            System.arraycopy(other.order, 0, order, 0, MOST_PLACES);
            System.arraycopy(other.table, 0, table, 0, MOST_PLACES * MOST_PLACES);
        }

        boolean isJoined(int a, int b) {
            return table[a * MOST_PLACES + b] != NO_WAY;
        }

        void join(int a, int b, int minutes) {
            table[a * MOST_PLACES + b] = minutes;
            table[b * MOST_PLACES + a] = minutes;
            roads++;
        }

        int minutes(int a, int b) {
            return table[a * MOST_PLACES + b];
        }

        /** Makes of the roads the least minutes between any two places, and orders the noons. */
        void measure() {
            for (int by = 0; by < places; by++) {
                for (int a = 0; a < places; a++) {
                    for (int b = 0; b < places; b++) {
                        int around = minutes(a, by) + minutes(by, b);
                        if (around < minutes(a, b)) {
                            table[a * MOST_PLACES + b] = around;
                        }
                    }
                }
            }
            for (int place = 0; place < places; place++) {
                order[turnOf(place)] = place;
            }
        }

        private int turnOf(int place) {
            int turn = 0;
            for (int other = 0; other < places; other++) {
                if (noon[other] < noon[place] || noon[other] == noon[place] && other < place) {
                    turn++;
                }
            }
            return turn;
        }

        /** The longest chain of noons at the goals (places as bits), each reached in time from the one before. */
        int mostNoons(int from, int goals) {
            int most = 0;
            for (int turn = 0; turn < places; turn++) {
                int place = order[turn];
                chain[turn] = 0;
                if ((goals >>> place & 1) == 0) {
                    continue;
                }
                if (minutes(from, place) <= MINUTES_AHEAD + noon[place]) {
                    chain[turn] = 1;
                }
                for (int earlier = 0; earlier < turn; earlier++) {
                    int before = order[earlier];
                    boolean inTime = minutes(before, place) <= noon[place] - noon[before];
                    if (chain[earlier] > 0 && inTime) {
                        chain[turn] = Math.max(chain[turn], chain[earlier] + 1);
                    }
                }
                most = Math.max(most, chain[turn]);
            }
            return most;
        }
    }

    /** Each person's e as steps: a number is put on a stack, a fact too, other steps join what lies on top. */
    private static final class Rules {
        static final int FACT_STEPS = 10000;
        /** Behind it come a sign's byte and, beyond the bytes, not, and, or. */
        static final int SIGN_STEPS = 20000;
        static final int NOT_STEP = 20256;
        static final int AND_STEP = 20257;
        static final int OR_STEP = 20258;
        /** 80 units, 79 that join two of them, and not at most seven times ahead of each. */
        private static final int MOST_STEPS = MOST_UNITS * 9;

        int units;
        int length;
        final int[] start = new int[MOST_PEOPLE];
        final int[] end = new int[MOST_PEOPLE];
        private final int[] steps = new int[MOST_STEPS];
        private final int[] stack = new int[MOST_UNITS];

        void clear() {
            units = 0;
            length = 0;
        }

        void copyFrom(Rules other) {
            units = other.units;
            System.arraycopy(other.start, 0, start, 0, MOST_PEOPLE);
            System.arraycopy(other.end, 0, end, 0, MOST_PEOPLE);
            System.arraycopy(other.steps, 0, steps, 0, MOST_STEPS);
        }

        void add(int step) {
            if (length < MOST_STEPS) {
                steps[length] = step;
                length++;
            }
        }

        int value(int person, int[] facts) {
            int top = 0;
            for (int i = start[person]; i < end[person]; i++) {
                int step = steps[i];
                if (step < SIGN_STEPS && top < MOST_UNITS) {
                    stack[top] = step < FACT_STEPS ? step : facts[step - FACT_STEPS];
                    top++;
                } else if (step == NOT_STEP && top > 0) {
                    stack[top - 1] = stack[top - 1] == 0 ? 1 : 0;
                } else if (top > 1) {
                    top--;
                    int a = stack[top - 1];
                    int b = stack[top];
                    switch (step) {
                        case SIGN_STEPS + '+':
                            a = a + b;
                            break;
                        case SIGN_STEPS + '-':
                            a = a - b;
                            break;
                        case SIGN_STEPS + '*':
                            a = a * b;
                            break;
                        case SIGN_STEPS + '<':
                            a = a < b ? 1 : 0;
                            break;
                        case SIGN_STEPS + '>':
                            a = a > b ? 1 : 0;
                            break;
                        case SIGN_STEPS + '=':
                            a = a == b ? 1 : 0;
                            break;
                        case AND_STEP:
                            a = a != 0 && b != 0 ? 1 : 0;
                            break;
                        default:
                            a = a != 0 || b != 0 ? 1 : 0;
                            break;
                    }
                    stack[top - 1] = a;
                }
            }
            return top > 0 ? stack[0] : 0;
        }
    }

    /** All that a text tells. */
    private static final class Valley {
        final Land land = new Land();
        final Rules rules = new Rules();
        int things;
        int people;
        int law;
        int late;
        final long[] thingNames = new long[MOST_THINGS];
        final int[] thingPlace = new int[MOST_THINGS];
        final int[] worth = new int[MOST_THINGS];
        final int[] wear = new int[MOST_THINGS];
        final int[] heavy = new int[MOST_THINGS];
        final boolean[] isFood = new boolean[MOST_THINGS];
        final long[] personNames = new long[MOST_PEOPLE];
        final int[] personPlace = new int[MOST_PEOPLE];
        final int[] craft = new int[MOST_PEOPLE];
        final int[] force = new int[MOST_PEOPLE];
        final int[] hard = new int[MOST_PEOPLE];

        void clear() {
            land.clear();
            rules.clear();
            things = 0;
            people = 0;
            law = LAW_NEAR;
            late = 0;
        }

        /** Names, and where rules end on the row of steps, are needed while reading alone, and stay behind. */
        void copyFrom(Valley other) {
            land.copyFrom(other.land);
            rules.copyFrom(other.rules);
            things = other.things;
            people = other.people;
            law = other.law;
            late = other.late;
            System.arraycopy(other.thingPlace, 0, thingPlace, 0, MOST_THINGS);
            System.arraycopy(other.worth, 0, worth, 0, MOST_THINGS);
            System.arraycopy(other.wear, 0, wear, 0, MOST_THINGS);
            System.arraycopy(other.heavy, 0, heavy, 0, MOST_THINGS);
            for (int thing = 0; thing < MOST_THINGS; thing++) {
                isFood[thing] = other.isFood[thing];
            }
            System.arraycopy(other.personPlace, 0, personPlace, 0, MOST_PEOPLE);
            System.arraycopy(other.craft, 0, craft, 0, MOST_PEOPLE);
            System.arraycopy(other.force, 0, force, 0, MOST_PEOPLE);
            System.arraycopy(other.hard, 0, hard, 0, MOST_PEOPLE);
        }

        boolean isTaker(int person, int thing) {
            return force[person] >= heavy[thing];
        }
    }

    /** How all stands: what days change, and what an image keeps. */
    private static final class Now {
        private static final int MOST_KEPT = KEPT_DAYS * MOST_THINGS;

        int days;
        int lateDays;
        int w = 1;
        final int[] owner = new int[MOST_THINGS];
        final int[] left = new int[MOST_THINGS];
        final int[] crowd = new int[MOST_THINGS];
        final int[] worth = new int[MOST_THINGS];
        final boolean[] eaten = new boolean[MOST_THINGS];
        final int[] at = new int[MOST_PEOPLE];
        final int[] made = new int[MOST_PEOPLE];
        private final int[] kept = new int[MOST_KEPT];

        void beginIn(Valley valley) {
            days = 0;
            lateDays = 0;
            for (int thing = 0; thing < MOST_THINGS; thing++) {
                owner[thing] = NONE;
                left[thing] = FULL;
                crowd[thing] = 0;
                worth[thing] = valley.worth[thing];
                eaten[thing] = false;
            }
            for (int person = 0; person < MOST_PEOPLE; person++) {
                at[person] = valley.personPlace[person];
                made[person] = 0;
            }
        }

        void copyFrom(Now other) {
            days = other.days;
            lateDays = other.lateDays;
            w = other.w;
            System.arraycopy(other.owner, 0, owner, 0, MOST_THINGS);
            System.arraycopy(other.left, 0, left, 0, MOST_THINGS);
            System.arraycopy(other.crowd, 0, crowd, 0, MOST_THINGS);
            System.arraycopy(other.worth, 0, worth, 0, MOST_THINGS);
            for (int thing = 0; thing < MOST_THINGS; thing++) {
                eaten[thing] = other.eaten[thing];
            }
            System.arraycopy(other.at, 0, at, 0, MOST_PEOPLE);
            System.arraycopy(other.made, 0, made, 0, MOST_PEOPLE);
            System.arraycopy(other.kept, 0, kept, 0, MOST_KEPT);
        }

        int draw(int n) {
            w = w * 1103515245 + 12345;
            return n > 0 ? (w >>> 16) % n : 0;
        }

        void endDay() {
            days++;
            if (days <= KEPT_DAYS) {
                System.arraycopy(owner, 0, kept, (days - 1) * MOST_THINGS, MOST_THINGS);
            }
        }

        int ownerBehind(int day, int thing) {
            int place = (day - 1) * MOST_THINGS + thing;
            return place >= 0 && place < MOST_KEPT ? kept[place] : NONE;
        }
    }

    /** One day step by step, on what is now or on a copy of it. */
    private static final class Day {
        private final Valley valley;
        private final int[] facts = new int[FACTS];
        private final int[] ownerBefore = new int[MOST_THINGS];
        private final int[] crowdBefore = new int[MOST_THINGS];
        private final int[] standsBy = new int[MOST_PEOPLE];
        private final int[] walked = new int[MOST_PEOPLE];
        /** Of each thing those who took it at its latest noon, as bits. */
        final int[] takers = new int[MOST_THINGS];

        Day(Valley valley) {
            this.valley = valley;
        }

        /** A whole day: what all made in it. */
        int live(Now now, int law) {
            int sum = use(now);
            mend(now);
            boolean late = valley.late != 0 && now.draw(100) < valley.late;
            if (late) {
                now.lateDays++;
            }
            noons(now, law, late);
            now.endDay();
            return sum;
        }

        int use(Now now) {
            int sum = 0;
            for (int person = 0; person < valley.people; person++) {
                int hard = valley.hard[person];
                for (int thing = 0; thing < valley.things; thing++) {
                    if (now.owner[thing] == person) {
                        int makes = now.worth[thing] * now.left[thing] * hard / 100;
                        now.made[person] += makes;
                        sum += makes;
                        wearDown(now, thing, hard);
                    }
                }
            }
            return sum;
        }

        private void wearDown(Now now, int thing, int hard) {
            now.left[thing] = Math.max(0, now.left[thing] - valley.wear[thing] * hard / 10);
            if (valley.isFood[thing] && hard != 0) {
                now.eaten[thing] = true;
                now.owner[thing] = NONE;
            }
        }

        void mend(Now now) {
            for (int person = 0; person < valley.people; person++) {
                int worst = NONE;
                for (int thing = 0; thing < valley.things; thing++) {
                    boolean his = now.owner[thing] == person;
                    if (his && (worst == NONE || now.left[thing] < now.left[worst])) {
                        worst = thing;
                    }
                }
                if (worst != NONE) {
                    now.left[worst] = Math.min(FULL, now.left[worst] + valley.craft[person]);
                }
            }
        }

        void noons(Now now, int law, boolean late) {
            remember(now);
            int clock = late ? -MINUTES_AHEAD - MINUTES_LATE : -MINUTES_AHEAD;
            for (int person = 0; person < valley.people; person++) {
                setOut(now, person, clock);
            }
            for (int turn = 0; turn < valley.land.places; turn++) {
                int place = valley.land.order[turn];
                for (int thing = 0; thing < valley.things; thing++) {
                    if (valley.thingPlace[thing] == place && !now.eaten[thing]) {
                        settle(now, thing, law);
                    }
                }
                for (int person = 0; person < valley.people; person++) {
                    if (stoodAt(person, place)) {
                        setOut(now, person, valley.land.noon[place]);
                    }
                }
            }
        }

        private boolean stoodAt(int person, int place) {
            int thing = standsBy[person];
            return thing != NONE && valley.thingPlace[thing] == place;
        }

        /** Rules ask for owners and crowds as they were when the noons of the day began. */
        void remember(Now now) {
            for (int thing = 0; thing < MOST_THINGS; thing++) {
                ownerBefore[thing] = now.owner[thing];
                crowdBefore[thing] = now.crowd[thing];
                takers[thing] = 0;
            }
        }

        int ask(Now now, int person, int thing) {
            int place = valley.thingPlace[thing];
            facts[WORTH] = now.worth[thing];
            facts[LEFT] = now.left[thing];
            facts[HEAVY] = valley.heavy[thing];
            facts[FAR] = valley.land.minutes(now.at[person], place);
            facts[MINE] = ownerBefore[thing] == person ? 1 : 0;
            facts[HELD] = ownerBefore[thing] == NONE ? 0 : 1;
            facts[CROWD] = crowdBefore[thing];
            facts[DAY] = now.days + 1;
            facts[CRAFT] = valley.craft[person];
            facts[FORCE] = valley.force[person];
            facts[NOON] = valley.land.noon[place];
            return valley.rules.value(person, facts);
        }

        /** The thing that he goes for when his clock (0 is twelve, as noons count) stands so; NONE. */
        int aim(Now now, int person, int clock) {
            int best = NONE;
            int most = 0;
            for (int thing = 0; thing < valley.things; thing++) {
                if (!now.eaten[thing] && isInTime(now, person, thing, clock)) {
                    int asked = ask(now, person, thing);
                    if (asked > most) {
                        most = asked;
                        best = thing;
                    }
                }
            }
            return best;
        }

        private boolean isInTime(Now now, int person, int thing, int clock) {
            int place = valley.thingPlace[thing];
            int noon = valley.land.noon[place];
            return noon > clock && valley.land.minutes(now.at[person], place) <= noon - clock;
        }

        private void setOut(Now now, int person, int clock) {
            int goal = aim(now, person, clock);
            standsBy[person] = goal;
            if (goal != NONE) {
                int place = valley.thingPlace[goal];
                walked[person] = valley.land.minutes(now.at[person], place);
                now.at[person] = place;
            }
        }

        private void settle(Now now, int thing, int law) {
            int crowd = 0;
            for (int person = 0; person < valley.people; person++) {
                if (standsBy[person] == thing) {
                    crowd++;
                    if (valley.isTaker(person, thing)) {
                        takers[thing] |= 1 << person;
                    }
                }
            }
            now.crowd[thing] = crowd;
            if (takers[thing] != 0) {
                now.owner[thing] = winner(now, takers[thing], law);
            } else if (crowd == 0 && valley.heavy[thing] == 0) {
                now.owner[thing] = NONE;
            }
        }

        private int winner(Now now, int takersHere, int law) {
            if (law == LAW_LOT) {
                return drawnOf(now, takersHere);
            }
            int best = NONE;
            for (int person = 0; person < valley.people; person++) {
                if ((takersHere >>> person & 1) == 1 && (best == NONE || isAhead(person, best, law))) {
                    best = person;
                }
            }
            return best;
        }

        private boolean isAhead(int person, int other, int law) {
            if (law == LAW_FORCE) {
                return valley.force[person] > valley.force[other];
            }
            return walked[person] < walked[other];
        }

        private int drawnOf(Now now, int takersHere) {
            int many = Integer.bitCount(takersHere);
            int skip = many > 1 ? now.draw(many) : 0;
            for (int person = 0; person < valley.people; person++) {
                if ((takersHere >>> person & 1) == 1) {
                    if (skip == 0) {
                        return person;
                    }
                    skip--;
                }
            }
            return NONE;
        }
    }

    /** What would be: found on a copy, so that what there is stays. */
    private static final class Trial {
        private final Valley valley;
        private final Day day;
        private final Now copy = new Now();
        private final long[] mostOfLeft = new long[FULL + 1];
        int upper;
        int lower;
        int hard;

        Trial(Valley valley, Day day) {
            this.valley = valley;
            this.day = day;
        }

        int madeBy(Now now, int n, int law) {
            copy.copyFrom(now);
            int sum = 0;
            for (int i = 0; i < n; i++) {
                sum += day.live(copy, law);
            }
            return sum;
        }

        int madeKept(Now now, int n) {
            copy.copyFrom(now);
            int sum = 0;
            for (int i = 0; i < n; i++) {
                sum += day.use(copy);
                day.mend(copy);
            }
            return sum;
        }

        /** Sets upper and lower to the chance with worth less by chip; false if the thing is eaten then. */
        boolean weigh(Now now, int thing, int person, int chip) {
            beginDay(now, thing, chip);
            if (copy.eaten[thing]) {
                return false;
            }
            day.noons(copy, valley.law, false);
            int wins = isHis(thing, person) ? 1 : 0;
            int lots = lotsFor(thing);
            beginDay(now, thing, chip);
            day.noons(copy, valley.law, true);
            int winsLate = isHis(thing, person) ? 1 : 0;
            int lotsLate = lotsFor(thing);
            int late = valley.late;
            upper = (100 - late) * wins * lotsLate + late * winsLate * lots;
            lower = 100 * lots * lotsLate;
            int shared = commonDivisor(upper, lower);
            if (shared > 1) {
                upper /= shared;
                lower /= shared;
            }
            return true;
        }

        private void beginDay(Now now, int thing, int chip) {
            copy.copyFrom(now);
            copy.worth[thing] -= chip;
            day.use(copy);
            day.mend(copy);
        }

        private boolean isDrawn(int thing) {
            return valley.law == LAW_LOT && day.takers[thing] != 0;
        }

        /** Of how many lots, all alike, one gives the thing; rules don't see what is drawn on the same day. */
        private int lotsFor(int thing) {
            return isDrawn(thing) ? Integer.bitCount(day.takers[thing]) : 1;
        }

        /** Whether the thing is his behind the noons, by one lot at least. */
        private boolean isHis(int thing, int person) {
            if (isDrawn(thing)) {
                return person != NONE && (day.takers[thing] >>> person & 1) == 1;
            }
            return copy.owner[thing] == person;
        }

        private static int commonDivisor(int a, int b) {
            int more = a;
            int less = b;
            for (int i = 0; i < 64 && less != 0; i++) {
                int over = more % less;
                more = less;
                less = over;
            }
            return more;
        }

        /** The most that comes of a thing in n days, in thousandths; sets hard to that of the first day. */
        int useWell(Now now, int thing, int n, int c) {
            int first = now.left[thing];
            for (int left = 0; left <= first; left++) {
                mostOfLeft[left] = 0;
            }
            for (int i = 1; i < n; i++) {
                // Downwards, since a day asks for no more left than its own, of the days behind it.
                for (int left = first; left >= 0; left--) {
                    mostOfLeft[left] = mostOfDay(now, thing, left, c);
                }
            }
            return (int) mostOfDay(now, thing, first, c);
        }

        private long mostOfDay(Now now, int thing, int left, int c) {
            long most = NONE;
            for (int h = 0; h <= HARDEST; h++) {
                long comes = now.worth[thing] * left * h * 10;
                if (h == 0 || !valley.isFood[thing]) {
                    int leftThen = Math.max(0, left - valley.wear[thing] * h / 10);
                    comes += c * mostOfLeft[leftThen] / 100;
                }
                if (comes > most) {
                    most = comes;
                    hard = h;
                }
            }
            return most;
        }
    }

    /** Rows of choices, one thing or none for each person, and which of them are at rest. */
    private static final class Standings {
        private final Valley valley;
        private final Now now;
        private final int[] choices = new int[MOST_PEOPLE * (MOST_THINGS + 1)];
        private final int[] choiceCount = new int[MOST_PEOPLE];
        private final int[] turn = new int[MOST_PEOPLE];
        final int[] choice = new int[MOST_PEOPLE];
        int count;
        int mostPay;
        int leastLost;

        Standings(Valley valley, Now now) {
            this.valley = valley;
            this.now = now;
        }

        boolean isSpent() {
            int rows = 1;
            for (int person = 0; person < valley.people; person++) {
                rows *= valley.things + 1;
            }
            return rows > MOST_ROWS;
        }

        /** Goes through the rows at rest up to the wanted one, and stays at it; false, having counted all, if it is none. */
        boolean seek(int wanted) {
            count = 0;
            mostPay = 0;
            leastLost = MOST_PEOPLE;
            listChoices();
            boolean more = true;
            for (int row = 0; row < MOST_ROWS && more; row++) {
                if (isAtRest()) {
                    if (count == wanted) {
                        return true;
                    }
                    count++;
                    mostPay = Math.max(mostPay, payOfAll());
                    leastLost = Math.min(leastLost, lost());
                }
                more = goOn();
            }
            return false;
        }

        private void listChoices() {
            for (int person = 0; person < valley.people; person++) {
                choiceCount[person] = 0;
                for (int thing = 0; thing < valley.things; thing++) {
                    int place = valley.thingPlace[thing];
                    boolean inTime = walk(person, thing) <= MINUTES_AHEAD + valley.land.noon[place];
                    if (inTime && !now.eaten[thing]) {
                        addChoice(person, thing);
                    }
                }
                addChoice(person, NONE);
                choose(person, 0);
            }
        }

        private void addChoice(int person, int thing) {
            choices[person * (MOST_THINGS + 1) + choiceCount[person]] = thing;
            choiceCount[person]++;
        }

        private void choose(int person, int which) {
            turn[person] = which;
            choice[person] = choiceOf(person, which);
        }

        private int choiceOf(int person, int which) {
            return choices[person * (MOST_THINGS + 1) + which];
        }

        /** The next row, the last person's choice counted up first; false behind the last one. */
        private boolean goOn() {
            for (int person = valley.people - 1; person >= 0; person--) {
                if (turn[person] + 1 < choiceCount[person]) {
                    choose(person, turn[person] + 1);
                    return true;
                }
                choose(person, 0);
            }
            return false;
        }

        private boolean isAtRest() {
            for (int person = 0; person < valley.people; person++) {
                int pay = payFor(person, choice[person]);
                for (int which = 0; which < choiceCount[person]; which++) {
                    if (payFor(person, choiceOf(person, which)) > pay) {
                        return false;
                    }
                }
            }
            return true;
        }

        /** What a person would have by this choice of his, with those of the others as they are. */
        private int payFor(int person, int thing) {
            if (thing == NONE || !valley.isTaker(person, thing)) {
                return 0;
            }
            int pay = now.worth[thing] * now.left[thing] / 100;
            int takers = 1;
            for (int other = 0; other < valley.people; other++) {
                if (other != person && choice[other] == thing && valley.isTaker(other, thing)) {
                    takers++;
                    if (valley.law != LAW_LOT && isAhead(other, person, thing)) {
                        return 0;
                    }
                }
            }
            return valley.law == LAW_LOT ? pay / takers : pay;
        }

        private boolean isAhead(int other, int person, int thing) {
            int lead = valley.force[other] - valley.force[person];
            if (valley.law == LAW_NEAR) {
                lead = walk(person, thing) - walk(other, thing);
            }
            return lead > 0 || lead == 0 && other < person;
        }

        private int walk(int person, int thing) {
            return valley.land.minutes(now.at[person], valley.thingPlace[thing]);
        }

        private int payOfAll() {
            int sum = 0;
            for (int person = 0; person < valley.people; person++) {
                sum += payFor(person, choice[person]);
            }
            return sum;
        }

        private int lost() {
            int sum = 0;
            for (int thing = 0; thing < valley.things; thing++) {
                int crowd = 0;
                boolean oneHasIt = false;
                for (int person = 0; person < valley.people; person++) {
                    if (choice[person] == thing) {
                        crowd++;
                        // What nobody takes stays whose it is, so its owner loses nothing by it.
                        if (valley.isTaker(person, thing) || now.owner[thing] == person) {
                            oneHasIt = true;
                        }
                    }
                }
                sum += oneHasIt ? crowd - 1 : crowd;
            }
            return sum;
        }
    }

    /** Who had what, as it was told, and when it was told and untold. */
    private static final class Tales {
        int count;
        private final int[] day = new int[MOST_TALES];
        private final int[] thing = new int[MOST_TALES];
        private final int[] person = new int[MOST_TALES];
        private final int[] toldAt = new int[MOST_TALES];
        /** NONE while it is not untold. */
        private final int[] untoldAt = new int[MOST_TALES];

        int add(int ofDay, int ofThing, int ofPerson, int time) {
            if (count >= MOST_TALES) {
                return NONE;
            }
            day[count] = ofDay;
            thing[count] = ofThing;
            person[count] = ofPerson;
            toldAt[count] = time;
            untoldAt[count] = NONE;
            count++;
            return count - 1;
        }

        boolean takeBack(int tale, int time) {
            if (tale < 0 || tale >= count || untoldAt[tale] != NONE) {
                return false;
            }
            untoldAt[tale] = time;
            return true;
        }

        private boolean counts(int tale, int k) {
            return toldAt[tale] <= k && (untoldAt[tale] == NONE || untoldAt[tale] > k);
        }

        private boolean isFalse(int tale, Now now) {
            return day[tale] <= now.days && now.ownerBehind(day[tale], thing[tale]) != person[tale];
        }

        int countFalse(Now now, int k) {
            int sum = 0;
            for (int tale = 0; tale < count; tale++) {
                if (counts(tale, k) && isFalse(tale, now)) {
                    sum++;
                }
            }
            return sum;
        }

        int countOpen(Now now, int k) {
            int sum = 0;
            for (int tale = 0; tale < count; tale++) {
                if (counts(tale, k) && day[tale] > now.days) {
                    sum++;
                }
            }
            return sum;
        }

        int firstFalse(Now now, int k) {
            for (int tale = 0; tale < count; tale++) {
                if (counts(tale, k) && isFalse(tale, now)) {
                    return tale;
                }
            }
            return NONE;
        }

        int firstDouble(int k) {
            for (int tale = 0; tale < count; tale++) {
                if (counts(tale, k) && contradictsEarlier(tale, k)) {
                    return tale;
                }
            }
            return NONE;
        }

        private boolean contradictsEarlier(int tale, int k) {
            for (int other = 0; other < tale; other++) {
                boolean same = day[other] == day[tale] && thing[other] == thing[tale];
                if (same && counts(other, k) && person[other] != person[tale]) {
                    return true;
                }
            }
            return false;
        }
    }
}
