import java.util.Arrays;
import java.util.NoSuchElementException;

public final class BenchColony {
    public static final int NONE = -1;

    /** What a call answers for "stands", "nobody", "none fits". */
    private static final int NOWHERE = -2;
    private static final int NO_FIGURE = -1000;
    private static final int NO_SHARE = -100;

    private static final int NO_TROUBLE = 0;
    private static final int NO_SUCH = 1;
    private static final int BAD_NUMBER = 2;
    private static final int NO_SPACE = 3;
    private static final int FAULTY = 4;
    private static final int NOT_SO = 5;
    private static final int NOTHING = 6;

    private static final int MOST_BYTES = 1000;
    private static final int MOST_BENCHES = 6;
    private static final int MOST_PEOPLE = 7;
    private static final int MOST_KIN = 6;
    private static final int MOST_HEEDS = 9;
    private static final int MOST_HOURS_TOLD = 8;
    private static final int MOST_HEAT = 60;
    private static final int MOST_STOCK = 200;
    private static final int MOST_RENT = 30;
    private static final int MOST_COAL = 999;
    private static final int MOST_DAYS = 99;
    private static final int HOURS = 100;
    private static final int MOST_ROUNDS = 20;
    private static final int MOST_LISTENERS = 99;
    private static final int LOUDEST = 6;
    private static final int MOST_YEARS = 90;
    private static final int DRAW_MODULUS = 65537;
    private static final int KEPT_ACTS = 16;
    private static final int MOST_IMAGES = 3;

    private static final int OPEN = 0;
    private static final int UPPER = 1;
    private static final int ISLAND = 2;

    private static final int THIRD = 0;
    private static final int FIRST = 1;
    private static final int LADY = 2;
    private static final int CHILD = 3;

    /** By KIND: the SORTS of benches on which one may sit, as bits. */
    private static final int[] SORTS_FOR_KIND = {1, 3, 5, 7};

    private final Teller teller = new Teller();
    private final Now now = new Now();
    private final Now later = new Now();
    private final Past past = new Past();
    private final Packer packer = new Packer();
    private final Couples registry = new Couples();
    private final Creed creed = new Creed();
    private Room colony = new Room();
    private int latestTrouble;
    private int latestFault;
    private int faultPlace;

    public BenchColony() {
    }

    // ---- the room

    public int feed(int a, int b, int c, int d, int e) {
        Tape tape = teller.tape;
        if (tape.length > MOST_BYTES - 20) {
            return NONE;
        }
        tape.append(a);
        tape.append(b);
        tape.append(c);
        tape.append(d);
        tape.append(e);
        return tape.length;
    }

    public int room(int n) {
        if (n < 0 || n > teller.tape.length) {
            return refused(BAD_NUMBER);
        }
        boolean whole = teller.tell(n);
        teller.tape.length = 0;
        latestFault = teller.fault;
        faultPlace = teller.faultPlace;
        if (!whole) {
            return refused(FAULTY);
        }
        Room old = colony;
        colony = teller.told;
        teller.told = old;
        colony.timetable.findTrains();
        now.copyFrom(colony.start);
        past.forgetAll();
        return answered(colony.hall.count);
    }

    public int fault() {
        return latestFault;
    }

    public int where() {
        return latestTrouble == FAULTY ? faultPlace : NONE;
    }

    // ---- now

    public int bench(int b, int what) {
        Hall hall = colony.hall;
        if (!hall.has(b) || what < 0 || what > 6) {
            return refused(NO_SUCH);
        }
        switch (what) {
            case 0:
                return answered(hall.sorts[b]);
            case 1:
                return answered(10 * hall.downs[b] + hall.acrosses[b]);
            case 2:
                return answered(hall.seats[b]);
            case 3:
                return answered(hall.rentOf[b]);
            case 4:
                return answered(hall.heatAlone(b, hall.heat));
            case 5:
                return answered(colony.warmth(now, b));
            default:
                return answered(now.sitters(b));
        }
    }

    public int person(int p, int what) {
        Folk folk = colony.folk;
        if (!folk.has(p) || what < 0 || what > 5) {
            return refusedWith(NO_SUCH, NO_FIGURE);
        }
        switch (what) {
            case 0:
                return answered(folk.kinds[p]);
            case 1:
                return answered(folk.colds[p]);
            case 2:
                return answered(now.seatOf[p]);
            case 3:
                return answered(colony.isContent(now, p, colony.hall.heat) ? 1 : 0);
            case 4:
                return answered(now.beliefs[p]);
            default:
                return answered(folk.sameTown(p));
        }
    }

    public int may(int p, int b) {
        if (!colony.folk.has(p) || !colony.hall.has(b)) {
            return refused(NO_SUCH);
        }
        return answered(colony.allows(p, b) ? 1 : 0);
    }

    public int content() {
        if (!colony.isTold) {
            return refused(NO_SUCH);
        }
        return answered(colony.contentBits(now, colony.hall.heat));
    }

    public int warmest(int p) {
        if (!colony.folk.has(p)) {
            return refused(NO_SUCH);
        }
        return answered(colony.warmestFor(now, p));
    }

    public int rents() {
        if (!colony.isTold) {
            return refused(NO_SUCH);
        }
        return answered(colony.rentNow(now));
    }

    public int heatFor() {
        if (!colony.isTold) {
            return refused(NO_SUCH);
        }
        return answered(colony.leastHeat(now));
    }

    // ---- packed

    public int packed() {
        if (!colony.isTold) {
            return refused(NO_SUCH);
        }
        packer.begin(colony);
        return answered(packer.most(colony.folk.everybody()));
    }

    public int packedAt(int p) {
        if (!colony.folk.has(p)) {
            return refused(NO_SUCH);
        }
        return answered(packer.firstRowAt(colony, p));
    }

    public int cheapest() {
        if (!colony.isTold) {
            return refused(NO_SUCH);
        }
        return answered(packer.leastRent(colony));
    }

    public int packedWithout(int p) {
        if (!colony.folk.has(p)) {
            return refused(NO_SUCH);
        }
        packer.begin(colony);
        return answered(packer.most(colony.folk.everybody() & ~(1 << p)));
    }

    public int bestSeat() {
        if (!colony.isTold) {
            return refused(NO_SUCH);
        }
        return answered(packer.seatMore(colony));
    }

    // ---- coal, couples

    public int coal(int b, int much) {
        if (!colony.hall.has(b)) {
            return refused(NO_SUCH);
        }
        if (much < 0 || much > MOST_COAL) {
            return refused(BAD_NUMBER);
        }
        return answered(colony.coalOf(now, b, much));
    }

    public int couples() {
        if (!colony.isTold) {
            return refused(NO_SUCH);
        }
        return answered(registry.pair(colony.folk));
    }

    public int spouse(int p) {
        if (!colony.folk.has(p)) {
            return refused(NO_SUCH);
        }
        registry.pair(colony.folk);
        return answered(registry.partnerOf[p]);
    }

    public int mayMarry(int p) {
        if (!colony.folk.has(p)) {
            return refused(NO_SUCH);
        }
        return answered(colony.folk.marriable(p));
    }

    // ---- sandwiches

    public int fed() {
        if (!colony.isTold) {
            return refused(NO_SUCH);
        }
        int people = colony.folk.count;
        return answered(people > 0 ? now.sandwiches / people : NOWHERE);
    }

    public int eats(int p, int days) {
        if (!colony.folk.has(p)) {
            return refused(NO_SUCH);
        }
        if (days < 0 || days > MOST_DAYS) {
            return refused(BAD_NUMBER);
        }
        int ahead = colony.folk.eatersAhead(p);
        int eaten = 0;
        for (int day = 0; day < days; day++) {
            if (leftBehind(day) > ahead) {
                eaten++;
            }
        }
        return answered(eaten);
    }

    public int left(int days) {
        if (!colony.isTold) {
            return refused(NO_SUCH);
        }
        if (days < 0 || days > MOST_DAYS) {
            return refused(BAD_NUMBER);
        }
        return answered(leftBehind(days));
    }

    // ---- trains

    public int trains() {
        if (!colony.isTold) {
            return refused(NO_SUCH);
        }
        return answered(colony.timetable.trainCount);
    }

    public int trainAt(int i) {
        Timetable timetable = colony.timetable;
        if (!colony.isTold || i < 0 || i >= timetable.trainCount) {
            return refused(NO_SUCH);
        }
        return answered(timetable.fitting[i]);
    }

    public int comes(int hour) {
        if (!colony.isTold) {
            return refused(NO_SUCH);
        }
        if (!isHour(hour)) {
            return refused(BAD_NUMBER);
        }
        return answered(colony.timetable.comings[hour]);
    }

    public int surely(int hour) {
        if (!colony.isTold) {
            return refused(NO_SUCH);
        }
        if (!isHour(hour)) {
            return refused(BAD_NUMBER);
        }
        return answered(colony.timetable.sureFrom(hour));
    }

    public int listen() {
        if (!colony.isTold) {
            return refused(NO_SUCH);
        }
        return answered(colony.timetable.bestHour());
    }

    public int listenLeaves() {
        if (!colony.isTold) {
            return refused(NO_SUCH);
        }
        int hour = colony.timetable.bestHour();
        return answered(isHour(hour) ? colony.timetable.mostLeftBy(hour) : NOWHERE);
    }

    // ---- beliefs

    public int drawn(int p) {
        if (!colony.folk.has(p)) {
            return refusedWith(NO_SUCH, NO_FIGURE);
        }
        creed.begin(now);
        creed.pull(colony.folk);
        return answered(creed.pulls[p]);
    }

    public int believers(int rounds) {
        if (!colony.isTold) {
            return refused(NO_SUCH);
        }
        if (rounds < 0 || rounds > MOST_ROUNDS) {
            return refused(BAD_NUMBER);
        }
        creed.begin(now);
        creed.go(colony.folk, rounds);
        return answered(creed.believing(colony.folk));
    }

    public int settled() {
        if (!colony.isTold) {
            return refused(NO_SUCH);
        }
        creed.begin(now);
        return answered(creed.roundsToRest(colony.folk));
    }

    public int won() {
        if (!colony.isTold) {
            return refused(NO_SUCH);
        }
        return answered(creed.fewestToWin(colony.folk, now));
    }

    public int prophet() {
        if (!colony.isTold) {
            return refused(NO_SUCH);
        }
        return answered(creed.bestPreacher(colony.folk, now));
    }

    // ---- two priests

    public int shout(int many, int one, int other, boolean ofOther) {
        if (!colony.isTold) {
            return refusedWith(NO_SUCH, NO_SHARE);
        }
        if (!isCrowd(many) || !isLoudness(one) || !isLoudness(other)) {
            return refusedWith(BAD_NUMBER, NO_SHARE);
        }
        return answered(ofOther ? share(many, other, one) : share(many, one, other));
    }

    public int rests(int many) {
        if (!colony.isTold) {
            return refused(NO_SUCH);
        }
        if (!isCrowd(many)) {
            return refused(BAD_NUMBER);
        }
        int found = 0;
        for (int one = 0; one <= LOUDEST; one++) {
            for (int other = 0; other <= LOUDEST; other++) {
                if (isRest(many, one, other)) {
                    found++;
                }
            }
        }
        return answered(found);
    }

    public int rest(int many) {
        if (!colony.isTold) {
            return refused(NO_SUCH);
        }
        if (!isCrowd(many)) {
            return refused(BAD_NUMBER);
        }
        for (int one = 0; one <= LOUDEST; one++) {
            for (int other = 0; other <= LOUDEST; other++) {
                if (isRest(many, one, other)) {
                    return answered(10 * one + other);
                }
            }
        }
        return answered(NOWHERE);
    }

    // ---- years

    public int years(int seed, int n) {
        if (!colony.folk.has(0)) {
            return refused(NO_SUCH);
        }
        if (!areYears(seed, n)) {
            return refused(BAD_NUMBER);
        }
        liveYears(0, seed, n);
        return answered(Integer.bitCount(colony.contentBits(later, colony.hall.heat)));
    }

    public int yearsAt(int p, int seed, int n) {
        if (!colony.folk.has(p)) {
            return refused(NO_SUCH);
        }
        if (!areYears(seed, n)) {
            return refused(BAD_NUMBER);
        }
        liveYears(p, seed, n);
        return answered(later.seatOf[p]);
    }

    public int happy(int p, int seed, int n) {
        if (!colony.folk.has(p)) {
            return refused(NO_SUCH);
        }
        if (!areYears(seed, n)) {
            return refused(BAD_NUMBER);
        }
        return answered(liveYears(p, seed, n));
    }

    // ---- acts

    public boolean sit(int p, int b) {
        if (!colony.folk.has(p) || !colony.hall.has(b)) {
            return notDone(NO_SUCH);
        }
        if (now.seatOf[p] == b || !colony.allows(p, b)) {
            return notDone(NOT_SO);
        }
        if (!colony.hasFreeSeat(now, b)) {
            return notDone(NO_SPACE);
        }
        past.keepAct(now);
        now.seatOf[p] = b;
        return done();
    }

    public boolean stand(int p) {
        if (!colony.folk.has(p)) {
            return notDone(NO_SUCH);
        }
        if (now.seatOf[p] == NOWHERE) {
            return notDone(NOT_SO);
        }
        past.keepAct(now);
        now.seatOf[p] = NOWHERE;
        return done();
    }

    public boolean preach(int p, int belief) {
        if (!colony.folk.has(p)) {
            return notDone(NO_SUCH);
        }
        if (belief < -1 || belief > 1) {
            return notDone(BAD_NUMBER);
        }
        if (now.beliefs[p] == belief) {
            return notDone(NOT_SO);
        }
        past.keepAct(now);
        now.beliefs[p] = belief;
        return done();
    }

    public int round() {
        if (!colony.isTold) {
            return refused(NO_SUCH);
        }
        past.keepAct(now);
        creed.begin(now);
        int changed = creed.step(colony.folk);
        creed.tellTo(now);
        return answered(changed);
    }

    public int day() {
        if (!colony.isTold) {
            return refused(NO_SUCH);
        }
        if (now.day >= MOST_DAYS) {
            return refused(NO_SPACE);
        }
        past.keepAct(now);
        int eaters = colony.folk.firstEaters(now.sandwiches);
        now.sandwiches -= Integer.bitCount(eaters);
        now.day++;
        return answered(eaters);
    }

    public boolean undo() {
        if (past.actCount == 0) {
            return notDone(NOTHING);
        }
        past.takeBack(now);
        return done();
    }

    public int image() {
        if (!colony.isTold) {
            return refused(NO_SUCH);
        }
        if (past.imageCount >= MOST_IMAGES) {
            return refused(NO_SPACE);
        }
        return answered(past.keepImage(now));
    }

    public boolean back(int image) {
        if (image < 0 || image >= past.imageCount) {
            return notDone(NO_SUCH);
        }
        past.goTo(image, now);
        return done();
    }

    // ---- what is told

    public int led(int i) throws NoSuchElementException {
        int before = 0;
        for (int p = 0; p < colony.folk.count; p++) {
            if (now.seatOf[p] == NOWHERE) {
                if (before == i) {
                    return p;
                }
                before++;
            }
        }
        throw new NoSuchElementException();
    }

    public int size(int what) {
        switch (what) {
            case 0:
                return colony.hall.wide;
            case 1:
                return colony.hall.tall;
            case 2:
                return colony.hall.heat;
            case 3:
                return colony.hall.count;
            case 4:
                return colony.folk.count;
            case 5:
                return colony.folk.kinCount;
            case 6:
                return colony.folk.heedCount;
            case 7:
                return colony.timetable.rumbleCount;
            case 8:
                return colony.timetable.quietCount();
            case 9:
                return now.sandwiches;
            case 10:
                return now.day;
            case 11:
                return past.actCount;
            case 12:
                return past.imageCount;
            case 13:
                return teller.tape.length;
            default:
                return NONE;
        }
    }

    public int trouble() {
        return latestTrouble;
    }

    // ---- what the calls above share

    private int answered(int value) {
        latestTrouble = NO_TROUBLE;
        return value;
    }

    private int refused(int number) {
        return refusedWith(number, NONE);
    }

    private int refusedWith(int number, int answer) {
        latestTrouble = number;
        return answer;
    }

    private boolean done() {
        latestTrouble = NO_TROUBLE;
        return true;
    }

    private boolean notDone(int number) {
        latestTrouble = number;
        return false;
    }

    private int leftBehind(int days) {
        return Math.max(0, now.sandwiches - days * colony.folk.count);
    }

    /** Leaves in later how all sit behind n YEARS; answers behind how many p is CONTENT. */
    private int liveYears(int p, int seed, int n) {
        later.copyFrom(now);
        int draw = seed;
        int contentYears = 0;
        for (int year = 0; year < n; year++) {
            int who = nextDraw(draw);
            draw = nextDraw(who);
            colony.reseat(later, who, draw);
            if (colony.isContent(later, p, colony.hall.heat)) {
                contentYears++;
            }
        }
        return contentYears;
    }

    private static int nextDraw(int seed) {
        return (75 * seed + 74) % DRAW_MODULUS;
    }

    private static boolean areYears(int seed, int n) {
        return seed >= 0 && seed < DRAW_MODULUS && n >= 0 && n <= MOST_YEARS;
    }

    private static boolean isHour(int hour) {
        return hour >= 0 && hour < HOURS;
    }

    private static boolean isCrowd(int many) {
        return many >= 0 && many <= MOST_LISTENERS;
    }

    private static boolean isLoudness(int loud) {
        return loud >= 0 && loud <= LOUDEST;
    }

    private static int share(int many, int mine, int his) {
        int listeners = mine == his ? many / 2 : mine > his ? many : 0;
        return listeners - 2 * mine;
    }

    private static boolean isRest(int many, int one, int other) {
        for (int loud = 0; loud <= LOUDEST; loud++) {
            if (share(many, loud, other) > share(many, one, other)
                    || share(many, loud, one) > share(many, other, one)) {
                return false;
            }
        }
        return true;
    }

    /** THE TAPE, and the TOKEN of it that is being looked at. */
    private static final class Tape {
        static final int END = 0;
        static final int WORD = 1;
        static final int WHOLE = 2;
        static final int SEMICOLON = 3;
        static final int NO_TOKEN = 4;

        private static final int BLANK = 32;
        private static final int BEFORE_A = 96;
        private static final int MOST_LETTERS = 8;
        private static final int MOST_DIGITS = 3;

        final byte[] bytes = new byte[MOST_BYTES];
        int length;
        int end;
        int next;
        int token;
        int place;
        int value;
        /** The letters as a number, five bits each: names are compared without making texts. */
        long word;

        void append(int number) {
            for (int shift = 24; shift >= 0; shift -= 8) {
                if (length < MOST_BYTES) {
                    bytes[length] = (byte) (number >> shift);
                    length++;
                }
            }
        }

        void begin(int n) {
            end = Math.max(0, Math.min(n, length));
            next = 0;
            step();
        }

        void step() {
            while (next < end && bytes[next] == BLANK) {
                next++;
            }
            place = next;
            if (next >= end) {
                token = END;
            } else if (bytes[next] >= 'a' && bytes[next] <= 'z') {
                readWord();
            } else if (bytes[next] >= '0' && bytes[next] <= '9') {
                readWhole();
            } else {
                token = bytes[next] == ';' ? SEMICOLON : NO_TOKEN;
                next++;
            }
        }

        /** A run that is too long is no WORD: its sum may wrap, nobody looks at it. */
        private void readWord() {
            word = 0;
            while (next < end && bytes[next] >= 'a' && bytes[next] <= 'z') {
                word = 32 * word + (bytes[next] - BEFORE_A);
                next++;
            }
            token = next - place <= MOST_LETTERS ? WORD : NO_TOKEN;
        }

        private void readWhole() {
            value = 0;
            while (next < end && bytes[next] >= '0' && bytes[next] <= '9') {
                value = 10 * value + (bytes[next] - '0');
                next++;
            }
            token = next - place <= MOST_DIGITS ? WHOLE : NO_TOKEN;
        }

        boolean is(String text) {
            if (token != WORD || next - place != text.length()) {
                return false;
            }
            for (int i = 0; i < text.length(); i++) {
                if (bytes[place + i] != text.charAt(i)) {
                    return false;
                }
            }
            return true;
        }

        /** The number that readWord makes of the same letters. */
        static long codeOf(String text) {
            long code = 0;
            for (int i = 0; i < text.length(); i++) {
                code = 32 * code + (text.charAt(i) - BEFORE_A);
            }
            return code;
        }
    }

    /** Reads a text LINE by LINE into a spare room, so that a FAULT leaves the ROOM as it was. */
    private static final class Teller {
        private static final int FORM = 1;
        private static final int UNKNOWN = 2;
        private static final int AGAIN = 3;
        private static final int BOUNDS = 4;
        private static final int MANY = 5;
        private static final int LACKS = 6;
        private static final int PLACE = 7;

        private static final int ROOM_LINE = 0;
        private static final int BENCH_LINE = 1;
        private static final int PERSON_LINE = 2;
        private static final int KIN_LINE = 3;
        private static final int HEEDS_LINE = 4;
        private static final int BELIEVES_LINE = 5;
        private static final int DENIES_LINE = 6;
        private static final int RUMBLE_LINE = 7;
        private static final int QUIET_LINE = 8;
        private static final int ON_WORD = 9;
        private static final int KEPT_WORDS = 10;

        final Tape tape = new Tape();
        /** The WORDS that begin LINES, and on: none of them is a NAME. */
        final long[] keptWords = new long[KEPT_WORDS];
        final long[] benchNames = new long[MOST_BENCHES];
        final long[] personNames = new long[MOST_PEOPLE];
        Room told = new Room();
        int fault;
        int faultPlace;
        /** What the latest reading step found: a WHOLE, a SORT, a KIND, a person, a bench. */
        int found;

        Teller() {
            keptWords[ROOM_LINE] = Tape.codeOf("room");
            keptWords[BENCH_LINE] = Tape.codeOf("bench");
            keptWords[PERSON_LINE] = Tape.codeOf("person");
            keptWords[KIN_LINE] = Tape.codeOf("kin");
            keptWords[HEEDS_LINE] = Tape.codeOf("heeds");
            keptWords[BELIEVES_LINE] = Tape.codeOf("believes");
            keptWords[DENIES_LINE] = Tape.codeOf("denies");
            keptWords[RUMBLE_LINE] = Tape.codeOf("rumble");
            keptWords[QUIET_LINE] = Tape.codeOf("quiet");
            keptWords[ON_WORD] = Tape.codeOf("on");
        }

        boolean tell(int n) {
            told.clear();
            fault = 0;
            faultPlace = 0;
            tape.begin(n);
            boolean good = readLine();
            for (int i = 0; i < MOST_BYTES && good && tape.token == Tape.SEMICOLON; i++) {
                tape.step();
                good = readLine();
            }
            if (!good) {
                return false;
            }
            if (tape.token != Tape.END) {
                return blame(FORM);
            }
            return told.hall.count > 0 || blame(LACKS);
        }

        private boolean blame(int number) {
            fault = number;
            faultPlace = tape.place;
            return false;
        }

        private boolean readLine() {
            int line = keptWord();
            if (line == NONE || line == ON_WORD) {
                return blame(FORM);
            }
            if (line == ROOM_LINE && told.isTold) {
                return blame(AGAIN);
            }
            if (isFull(line)) {
                return blame(MANY);
            }
            if (line != ROOM_LINE && !told.isTold) {
                return blame(LACKS);
            }
            tape.step();
            switch (line) {
                case ROOM_LINE:
                    return readRoom();
                case BENCH_LINE:
                    return readBench();
                case PERSON_LINE:
                    return readPerson();
                case KIN_LINE:
                    return readKin();
                case HEEDS_LINE:
                    return readHeeds();
                case BELIEVES_LINE:
                    return readBelief(1);
                case DENIES_LINE:
                    return readBelief(-1);
                case RUMBLE_LINE:
                    return readHour(true);
                default:
                    return readHour(false);
            }
        }

        private boolean isFull(int line) {
            switch (line) {
                case BENCH_LINE:
                    return told.hall.count >= MOST_BENCHES;
                case PERSON_LINE:
                    return told.folk.count >= MOST_PEOPLE;
                case KIN_LINE:
                    return told.folk.kinCount >= MOST_KIN;
                case HEEDS_LINE:
                    return told.folk.heedCount >= MOST_HEEDS;
                case RUMBLE_LINE:
                case QUIET_LINE:
                    return told.timetable.hourCount >= MOST_HOURS_TOLD;
                default:
                    return false;
            }
        }

        private boolean readRoom() {
            Hall hall = told.hall;
            if (!readWord("wide") || !readWhole(1, 9)) {
                return false;
            }
            hall.wide = found;
            if (!readWord("tall") || !readWhole(1, 9)) {
                return false;
            }
            hall.tall = found;
            if (!readWord("stove") || !readWhole(0, hall.wide - 1)) {
                return false;
            }
            hall.stoveAcross = found;
            if (!readWhole(0, hall.tall - 1)) {
                return false;
            }
            hall.stoveDown = found;
            if (!readWord("heat") || !readWhole(1, MOST_HEAT)) {
                return false;
            }
            hall.heat = found;
            if (!readWord("stock") || !readWhole(0, MOST_STOCK)) {
                return false;
            }
            told.start.sandwiches = found;
            told.isTold = true;
            return true;
        }

        private boolean readBench() {
            Hall hall = told.hall;
            int b = hall.count;
            if (b >= MOST_BENCHES) {
                return blame(MANY);
            }
            long name = tape.word;
            if (!readNewName() || !readSort()) {
                return false;
            }
            hall.sorts[b] = found;
            if (!readWord("at") || !readWhole(0, hall.wide - 1)) {
                return false;
            }
            hall.acrosses[b] = found;
            if (!readDown(hall.acrosses[b])) {
                return false;
            }
            hall.downs[b] = found;
            if (!readWord("seats") || !readWhole(1, 3)) {
                return false;
            }
            hall.seats[b] = found;
            if (!readWord("rent") || !readWhole(0, MOST_RENT)) {
                return false;
            }
            hall.rentOf[b] = found;
            benchNames[b] = name;
            hall.count++;
            return true;
        }

        /** The second number of a bench's CELL: of one place the bounds are looked at first. */
        private boolean readDown(int across) {
            Hall hall = told.hall;
            if (tape.token == Tape.WHOLE && tape.value < hall.tall && hall.isTaken(across, tape.value)) {
                return blame(PLACE);
            }
            return readWhole(0, hall.tall - 1);
        }

        private boolean readPerson() {
            Folk folk = told.folk;
            int p = folk.count;
            if (p >= MOST_PEOPLE) {
                return blame(MANY);
            }
            long name = tape.word;
            if (!readNewName() || !readKind()) {
                return false;
            }
            folk.kinds[p] = found;
            if (!readWord("for") || !readTown(p)) {
                return false;
            }
            if (!readWord("cold") || !readWhole(0, MOST_HEAT)) {
                return false;
            }
            folk.colds[p] = found;
            personNames[p] = name;
            folk.count++;
            if (!tape.is("on")) {
                return true;
            }
            tape.step();
            return readSeat(p);
        }

        private boolean readTown(int p) {
            if (tape.token != Tape.WORD) {
                return blame(FORM);
            }
            told.folk.towns[p] = tape.word;
            tape.step();
            return true;
        }

        private boolean readSeat(int p) {
            if (!isName()) {
                return blame(FORM);
            }
            int b = indexOf(benchNames, told.hall.count, tape.word);
            if (b == NONE) {
                return blame(UNKNOWN);
            }
            if (!told.allows(p, b) || !told.hasFreeSeat(told.start, b)) {
                return blame(PLACE);
            }
            told.start.seatOf[p] = b;
            tape.step();
            return true;
        }

        private boolean readKin() {
            if (!findPerson()) {
                return false;
            }
            int one = found;
            tape.step();
            if (!findPerson()) {
                return false;
            }
            if (found == one || told.folk.areKin(one, found)) {
                return blame(AGAIN);
            }
            told.folk.addKin(one, found);
            tape.step();
            return true;
        }

        private boolean readHeeds() {
            if (!findPerson()) {
                return false;
            }
            int one = found;
            tape.step();
            if (!findPerson()) {
                return false;
            }
            int other = found;
            if (other == one || told.folk.heeds(one, other)) {
                return blame(AGAIN);
            }
            tape.step();
            if (!readWord("weight") || !readWhole(1, 9)) {
                return false;
            }
            told.folk.addHeed(one, other, found);
            return true;
        }

        /** No LINE tells that somebody is unsure: 0 means that nothing is told of him yet. */
        private boolean readBelief(int belief) {
            if (!findPerson()) {
                return false;
            }
            if (told.start.beliefs[found] != 0) {
                return blame(AGAIN);
            }
            told.start.beliefs[found] = belief;
            tape.step();
            return true;
        }

        private boolean readHour(boolean rumbles) {
            if (tape.token == Tape.WHOLE && told.timetable.isHourTold(tape.value)) {
                return blame(AGAIN);
            }
            if (!readWhole(0, HOURS - 1)) {
                return false;
            }
            told.timetable.addHour(found, rumbles);
            return true;
        }

        private boolean readWord(String text) {
            if (!tape.is(text)) {
                return blame(FORM);
            }
            tape.step();
            return true;
        }

        private boolean readWhole(int least, int most) {
            if (tape.token != Tape.WHOLE) {
                return blame(FORM);
            }
            if (tape.value < least || tape.value > most) {
                return blame(BOUNDS);
            }
            found = tape.value;
            tape.step();
            return true;
        }

        private boolean readSort() {
            if (tape.is("open")) {
                found = OPEN;
            } else if (tape.is("upper")) {
                found = UPPER;
            } else if (tape.is("island")) {
                found = ISLAND;
            } else {
                return blame(FORM);
            }
            tape.step();
            return true;
        }

        private boolean readKind() {
            if (tape.is("third")) {
                found = THIRD;
            } else if (tape.is("first")) {
                found = FIRST;
            } else if (tape.is("lady")) {
                found = LADY;
            } else if (tape.is("child")) {
                found = CHILD;
            } else {
                return blame(FORM);
            }
            tape.step();
            return true;
        }

        private int keptWord() {
            return tape.token == Tape.WORD ? indexOf(keptWords, KEPT_WORDS, tape.word) : NONE;
        }

        private boolean isName() {
            return tape.token == Tape.WORD && keptWord() == NONE;
        }

        private boolean readNewName() {
            if (!isName()) {
                return blame(FORM);
            }
            if (indexOf(benchNames, told.hall.count, tape.word) != NONE
                    || indexOf(personNames, told.folk.count, tape.word) != NONE) {
                return blame(AGAIN);
            }
            tape.step();
            return true;
        }

        /** Stays at the NAME, for the FAULTS that may yet be found at it. */
        private boolean findPerson() {
            if (!isName()) {
                return blame(FORM);
            }
            found = indexOf(personNames, told.folk.count, tape.word);
            return found != NONE || blame(UNKNOWN);
        }

        private static int indexOf(long[] names, int count, long name) {
            for (int i = 0; i < count && i < names.length; i++) {
                if (names[i] == name) {
                    return i;
                }
            }
            return NONE;
        }
    }

    /** All that a text tells; what can change later is only its start here. */
    private static final class Room {
        final Hall hall = new Hall();
        final Folk folk = new Folk();
        final Timetable timetable = new Timetable();
        final Now start = new Now();
        boolean isTold;

        void clear() {
            isTold = false;
            hall.clear();
            folk.clear();
            timetable.clear();
            start.clear();
        }

        boolean allows(int p, int b) {
            int kind = folk.kinds[p];
            return kind >= 0 && kind < SORTS_FOR_KIND.length
                    && (SORTS_FOR_KIND[kind] >> hall.sorts[b] & 1) == 1;
        }

        boolean hasFreeSeat(Now then, int b) {
            return Integer.bitCount(then.sitters(b)) < hall.seats[b];
        }

        /** Where PACKING may put one, as bits. */
        int benchesFor(int p) {
            int bits = 0;
            for (int b = 0; b < hall.count; b++) {
                if (allows(p, b) && hall.heatAlone(b, hall.heat) >= folk.colds[p]) {
                    bits |= 1 << b;
                }
            }
            return bits;
        }

        int warmth(Now then, int b) {
            return hall.heatAlone(b, hall.heat) + 3 * Integer.bitCount(then.sitters(b));
        }

        int warmestFor(Now then, int p) {
            int best = NOWHERE;
            int most = NONE;
            for (int b = 0; b < hall.count; b++) {
                if (allows(p, b) && hasFreeSeat(then, b) && warmth(then, b) > most) {
                    best = b;
                    most = warmth(then, b);
                }
            }
            return best;
        }

        boolean isContent(Now then, int p, int heat) {
            int b = then.seatOf[p];
            if (!hall.has(b) || hall.heatAlone(b, heat) < folk.colds[p]) {
                return false;
            }
            return folk.kinds[p] != LADY || (then.sitters(b) & folk.gentlemen()) == 0;
        }

        int contentBits(Now then, int heat) {
            int bits = 0;
            for (int p = 0; p < folk.count; p++) {
                if (isContent(then, p, heat)) {
                    bits |= 1 << p;
                }
            }
            return bits;
        }

        int leastHeat(Now then) {
            int most = Integer.bitCount(contentBits(then, MOST_HEAT));
            for (int heat = 1; heat < MOST_HEAT; heat++) {
                if (Integer.bitCount(contentBits(then, heat)) == most) {
                    return heat;
                }
            }
            return MOST_HEAT;
        }

        int rentNow(Now then) {
            int sum = 0;
            for (int b = 0; b < hall.count; b++) {
                sum += hall.rentOf[b] * Integer.bitCount(then.sitters(b));
            }
            return sum;
        }

        int coalOf(Now then, int b, int much) {
            int all = 0;
            for (int i = 0; i < hall.count; i++) {
                all += coalWeight(then, i);
            }
            if (all <= 0) {
                return 0;
            }
            int unpaid = much;
            for (int i = 0; i < hall.count; i++) {
                unpaid -= much * coalWeight(then, i) / all;
            }
            int mine = much * coalWeight(then, b);
            int ahead = 0;
            for (int i = 0; i < hall.count; i++) {
                int rest = much * coalWeight(then, i) % all;
                if (rest > mine % all || rest == mine % all && i < b) {
                    ahead++;
                }
            }
            return mine / all + (ahead < unpaid ? 1 : 0);
        }

        private int coalWeight(Now then, int b) {
            return hall.heatAlone(b, hall.heat) * Integer.bitCount(then.sitters(b));
        }

        /** One YEAR: its two DRAWS tell who gets up and where he then would sit. */
        void reseat(Now then, int whoDraw, int benchDraw) {
            if (folk.count <= 0 || hall.count <= 0) {
                return;
            }
            int p = Math.floorMod(whoDraw, folk.count);
            int b = Math.floorMod(benchDraw, hall.count);
            then.seatOf[p] = NOWHERE;
            if (allows(p, b) && hasFreeSeat(then, b)) {
                then.seatOf[p] = b;
            }
        }
    }

    /** The cells, the stove and the benches. */
    private static final class Hall {
        final int[] sorts = new int[MOST_BENCHES];
        final int[] acrosses = new int[MOST_BENCHES];
        final int[] downs = new int[MOST_BENCHES];
        final int[] seats = new int[MOST_BENCHES];
        final int[] rentOf = new int[MOST_BENCHES];
        int count;
        int wide;
        int tall;
        int stoveAcross;
        int stoveDown;
        int heat;

        void clear() {
            count = 0;
            wide = 0;
            tall = 0;
            heat = 0;
        }

        boolean has(int b) {
            return b >= 0 && b < count;
        }

        boolean isTaken(int across, int down) {
            for (int b = 0; b < count; b++) {
                if (acrosses[b] == across && downs[b] == down) {
                    return true;
                }
            }
            return across == stoveAcross && down == stoveDown;
        }

        int heatAlone(int b, int stoveHeat) {
            int cells = Math.abs(acrosses[b] - stoveAcross) + Math.abs(downs[b] - stoveDown);
            return Math.max(0, stoveHeat - 4 * cells);
        }
    }

    /** The people as they are told, who are kin and who heed whom. */
    private static final class Folk {
        final int[] kinds = new int[MOST_PEOPLE];
        final long[] towns = new long[MOST_PEOPLE];
        final int[] colds = new int[MOST_PEOPLE];
        final int[] kinBits = new int[MOST_PEOPLE];
        final int[] heeders = new int[MOST_HEEDS];
        final int[] heededs = new int[MOST_HEEDS];
        final int[] weights = new int[MOST_HEEDS];
        int count;
        int kinCount;
        int heedCount;

        void clear() {
            count = 0;
            kinCount = 0;
            heedCount = 0;
            Arrays.fill(kinBits, 0);
        }

        boolean has(int p) {
            return p >= 0 && p < count;
        }

        int everybody() {
            return (1 << count) - 1;
        }

        boolean areKin(int one, int other) {
            return (kinBits[one] >> other & 1) == 1;
        }

        void addKin(int one, int other) {
            kinBits[one] |= 1 << other;
            kinBits[other] |= 1 << one;
            kinCount++;
        }

        boolean heeds(int one, int other) {
            for (int i = 0; i < heedCount; i++) {
                if (heeders[i] == one && heededs[i] == other) {
                    return true;
                }
            }
            return false;
        }

        void addHeed(int one, int other, int weight) {
            if (heedCount >= MOST_HEEDS) {
                return;
            }
            heeders[heedCount] = one;
            heededs[heedCount] = other;
            weights[heedCount] = weight;
            heedCount++;
        }

        int sameTown(int p) {
            int bits = 0;
            for (int q = 0; q < count; q++) {
                if (q != p && towns[q] == towns[p]) {
                    bits |= 1 << q;
                }
            }
            return bits;
        }

        int marriable(int p) {
            int children = ofKind(CHILD);
            return (children >> p & 1) == 1 ? 0 : sameTown(p) & ~kinBits[p] & ~children;
        }

        /** Those beside whom no lady is CONTENT. */
        int gentlemen() {
            return ofKind(FIRST) | ofKind(THIRD);
        }

        private int ofKind(int kind) {
            int bits = 0;
            for (int p = 0; p < count; p++) {
                if (kinds[p] == kind) {
                    bits |= 1 << p;
                }
            }
            return bits;
        }

        int eatersAhead(int p) {
            int children = ofKind(CHILD);
            int lower = (1 << p) - 1;
            boolean isChild = (children >> p & 1) == 1;
            return Integer.bitCount(isChild ? children & lower : children | lower);
        }

        int firstEaters(int sandwiches) {
            int bits = 0;
            for (int p = 0; p < count; p++) {
                if (eatersAhead(p) < sandwiches) {
                    bits |= 1 << p;
                }
            }
            return bits;
        }
    }

    /** The hours that were told, and the TRAINS that fit them. */
    private static final class Timetable {
        private static final int LEAST_BETWEEN = 2;
        private static final int MOST_BETWEEN = 12;
        private static final int MOST_TRAINS = 77;

        final int[] hours = new int[MOST_HOURS_TOLD];
        final boolean[] rumbled = new boolean[MOST_HOURS_TOLD];
        final int[] fitting = new int[MOST_TRAINS];
        /** By hours: how many of the fitting TRAINS come then. */
        final int[] comings = new int[HOURS];
        int hourCount;
        int rumbleCount;
        int trainCount;

        void clear() {
            hourCount = 0;
            rumbleCount = 0;
        }

        int quietCount() {
            return hourCount - rumbleCount;
        }

        boolean isHourTold(int hour) {
            for (int i = 0; i < hourCount; i++) {
                if (hours[i] == hour) {
                    return true;
                }
            }
            return false;
        }

        void addHour(int hour, boolean rumbles) {
            if (hourCount >= MOST_HOURS_TOLD) {
                return;
            }
            hours[hourCount] = hour;
            rumbled[hourCount] = rumbles;
            hourCount++;
            if (rumbles) {
                rumbleCount++;
            }
        }

        void findTrains() {
            trainCount = 0;
            Arrays.fill(comings, 0);
            for (int between = LEAST_BETWEEN; between <= MOST_BETWEEN; between++) {
                for (int first = 0; first < between; first++) {
                    if (fits(between, first) && trainCount < MOST_TRAINS) {
                        addTrain(between, first);
                    }
                }
            }
        }

        private boolean fits(int between, int first) {
            if (between <= 0) {
                return false;
            }
            for (int i = 0; i < hourCount; i++) {
                if ((hours[i] % between == first) != rumbled[i]) {
                    return false;
                }
            }
            return true;
        }

        private void addTrain(int between, int first) {
            fitting[trainCount] = 100 * between + first;
            trainCount++;
            for (int hour = first; hour < HOURS; hour += between) {
                comings[hour]++;
            }
        }

        int sureFrom(int hour) {
            if (trainCount == 0) {
                return NOWHERE;
            }
            for (int h = hour; h < HOURS; h++) {
                if (comings[h] == trainCount) {
                    return h;
                }
            }
            return NOWHERE;
        }

        int mostLeftBy(int hour) {
            return Math.max(comings[hour], trainCount - comings[hour]);
        }

        int bestHour() {
            if (trainCount == 0) {
                return NOWHERE;
            }
            int best = 0;
            for (int hour = 1; hour < HOURS; hour++) {
                if (mostLeftBy(hour) < mostLeftBy(best)) {
                    best = hour;
                }
            }
            return best;
        }
    }

    /** What ACTS change. */
    private static final class Now {
        static final int LENGTH = 2 * MOST_PEOPLE + 2;

        final int[] seatOf = new int[MOST_PEOPLE];
        final int[] beliefs = new int[MOST_PEOPLE];
        int sandwiches;
        int day;

        void clear() {
            Arrays.fill(seatOf, NOWHERE);
            Arrays.fill(beliefs, 0);
            sandwiches = 0;
            day = 0;
        }

        void copyFrom(Now other) {
            System.arraycopy(other.seatOf, 0, seatOf, 0, MOST_PEOPLE);
            System.arraycopy(other.beliefs, 0, beliefs, 0, MOST_PEOPLE);
            sandwiches = other.sandwiches;
            day = other.day;
        }

        void writeTo(int[] row) {
            if (row.length < LENGTH) {
                return;
            }
            System.arraycopy(seatOf, 0, row, 0, MOST_PEOPLE);
            System.arraycopy(beliefs, 0, row, MOST_PEOPLE, MOST_PEOPLE);
            row[2 * MOST_PEOPLE] = sandwiches;
            row[2 * MOST_PEOPLE + 1] = day;
        }

        void readFrom(int[] row) {
            if (row.length < LENGTH) {
                return;
            }
            System.arraycopy(row, 0, seatOf, 0, MOST_PEOPLE);
            System.arraycopy(row, MOST_PEOPLE, beliefs, 0, MOST_PEOPLE);
            sandwiches = row[2 * MOST_PEOPLE];
            day = row[2 * MOST_PEOPLE + 1];
        }

        int sitters(int b) {
            int bits = 0;
            for (int p = 0; p < MOST_PEOPLE; p++) {
                if (seatOf[p] == b) {
                    bits |= 1 << p;
                }
            }
            return bits;
        }
    }

    /** The latest ACTS, each by what was ahead of it, in a ring; and the IMAGES. */
    private static final class Past {
        final int[][] acts = new int[KEPT_ACTS][Now.LENGTH];
        final int[][] images = new int[MOST_IMAGES][Now.LENGTH];
        int nextAct;
        int actCount;
        int imageCount;

        void forgetAll() {
            nextAct = 0;
            actCount = 0;
            imageCount = 0;
        }

        void keepAct(Now now) {
            now.writeTo(acts[nextAct]);
            nextAct = (nextAct + 1) % KEPT_ACTS;
            actCount = Math.min(actCount + 1, KEPT_ACTS);
        }

        void takeBack(Now now) {
            if (actCount > 0) {
                nextAct = (nextAct + KEPT_ACTS - 1) % KEPT_ACTS;
                actCount--;
                now.readFrom(acts[nextAct]);
            }
        }

        int keepImage(Now now) {
            if (imageCount >= MOST_IMAGES) {
                return NONE;
            }
            now.writeTo(images[imageCount]);
            imageCount++;
            return imageCount - 1;
        }

        void goTo(int image, Now now) {
            if (image >= 0 && image < imageCount) {
                now.readFrom(images[image]);
                nextAct = 0;
                actCount = 0;
            }
        }
    }

    /** PACKING as a matching of people to benches, grown along chains of people who move on. */
    private static final class Packer {
        final int[] seatsLeft = new int[MOST_BENCHES];
        final int[] taken = new int[MOST_BENCHES];
        /** By people: the benches where they may sit and that are warm enough, as bits. */
        final int[] suiting = new int[MOST_PEOPLE];
        final int[] place = new int[MOST_PEOPLE];
        int people;
        int benches;
        int triedBenches;

        void begin(Room room) {
            people = room.folk.count;
            benches = room.hall.count;
            System.arraycopy(room.hall.seats, 0, seatsLeft, 0, MOST_BENCHES);
            for (int p = 0; p < people; p++) {
                suiting[p] = room.benchesFor(p);
            }
        }

        /** The most of these people who can sit at once on the seats that are left. */
        int most(int who) {
            Arrays.fill(place, NOWHERE);
            Arrays.fill(taken, 0);
            int sitting = 0;
            for (int p = 0; p < people; p++) {
                triedBenches = 0;
                if ((who >> p & 1) == 1 && findsSeat(p, 0)) {
                    sitting++;
                }
            }
            return sitting;
        }

        /** Each level tries a bench that no level above has tried: benches bound the depth. */
        private boolean findsSeat(int p, int depth) {
            if (depth > MOST_BENCHES) {
                return false;
            }
            for (int b = 0; b < benches; b++) {
                if ((suiting[p] & ~triedBenches & 1 << b) != 0) {
                    triedBenches |= 1 << b;
                    if (taken[b] < seatsLeft[b] || oneMovesOn(b, depth)) {
                        place[p] = b;
                        taken[b]++;
                        return true;
                    }
                }
            }
            return false;
        }

        private boolean oneMovesOn(int b, int depth) {
            for (int q = 0; q < people; q++) {
                if (place[q] == b && findsSeat(q, depth + 1)) {
                    taken[b]--;
                    return true;
                }
            }
            return false;
        }

        /** The bench of one in the first row: people by numbers take their first bench that costs nobody a seat. */
        int firstRowAt(Room room, int wanted) {
            begin(room);
            int behind = room.folk.everybody();
            int toSeat = most(behind);
            int bench = NOWHERE;
            for (int p = 0; p <= wanted && p < people; p++) {
                behind &= ~(1 << p);
                bench = takeFirst(p, behind, toSeat);
                if (bench != NOWHERE) {
                    toSeat--;
                }
            }
            return bench;
        }

        private int takeFirst(int p, int behind, int toSeat) {
            for (int b = 0; b < benches; b++) {
                if (seatsLeft[b] > 0 && (suiting[p] >> b & 1) == 1) {
                    seatsLeft[b]--;
                    if (most(behind) == toSeat - 1) {
                        return b;
                    }
                    seatsLeft[b]++;
                }
            }
            return NOWHERE;
        }

        /**
         * Seats are opened from the cheapest rent on, and each rent is paid for as many as it adds to the most
         * who sit: the sets of seats that can be filled at once are a matroid, so the greedy way is the cheapest.
         */
        int leastRent(Room room) {
            begin(room);
            Arrays.fill(seatsLeft, 0);
            int sum = 0;
            int sitting = 0;
            for (int rent = 0; rent <= MOST_RENT; rent++) {
                if (openSeats(room.hall, rent)) {
                    int more = most(room.folk.everybody());
                    sum += rent * (more - sitting);
                    sitting = more;
                }
            }
            return sum;
        }

        private boolean openSeats(Hall hall, int rent) {
            boolean opened = false;
            for (int b = 0; b < benches; b++) {
                if (hall.rentOf[b] == rent) {
                    seatsLeft[b] = hall.seats[b];
                    opened = true;
                }
            }
            return opened;
        }

        /** A seat more seats one more at most, so the first bench that does is the best. */
        int seatMore(Room room) {
            begin(room);
            int everybody = room.folk.everybody();
            int sitting = most(everybody);
            for (int b = 0; b < benches; b++) {
                seatsLeft[b]++;
                if (most(everybody) > sitting) {
                    return b;
                }
                seatsLeft[b]--;
            }
            return NOWHERE;
        }
    }

    /** COUPLES, by the most pairs within each set of people. */
    private static final class Couples {
        final int[] mostPairs = new int[1 << MOST_PEOPLE];
        final int[] partnerOf = new int[MOST_PEOPLE];

        /** Leaves the first row in partnerOf; answers how many couples. */
        int pair(Folk folk) {
            int all = folk.everybody();
            mostPairs[0] = 0;
            for (int people = 1; people <= all; people++) {
                mostPairs[people] = pairsAmong(folk, people);
            }
            Arrays.fill(partnerOf, NOWHERE);
            int people = all;
            for (int p = 0; p < folk.count; p++) {
                if ((people >> p & 1) == 1) {
                    people = wed(folk, p, people);
                }
            }
            return mostPairs[all];
        }

        private int pairsAmong(Folk folk, int people) {
            int p = Integer.numberOfTrailingZeros(people);
            int others = people & ~(1 << p);
            int most = mostPairs[others];
            int choices = folk.marriable(p) & others;
            for (int q = p + 1; q < folk.count; q++) {
                if ((choices >> q & 1) == 1) {
                    most = Math.max(most, 1 + mostPairs[others & ~(1 << q)]);
                }
            }
            return most;
        }

        /** Pairs p with the least one by whom the most stay possible; answers who is left. */
        private int wed(Folk folk, int p, int people) {
            int others = people & ~(1 << p);
            int choices = folk.marriable(p) & others;
            for (int q = p + 1; q < folk.count; q++) {
                int without = others & ~(1 << q);
                if ((choices >> q & 1) == 1 && 1 + mostPairs[without] == mostPairs[people]) {
                    partnerOf[p] = q;
                    partnerOf[q] = p;
                    return without;
                }
            }
            return others;
        }
    }

    /** BELIEF in ROUNDS, tried out apart from what is so NOW. */
    private static final class Creed {
        final int[] beliefs = new int[MOST_PEOPLE];
        /** How much each is drawn to believe. */
        final int[] pulls = new int[MOST_PEOPLE];

        void begin(Now now) {
            System.arraycopy(now.beliefs, 0, beliefs, 0, MOST_PEOPLE);
        }

        void tellTo(Now now) {
            System.arraycopy(beliefs, 0, now.beliefs, 0, MOST_PEOPLE);
        }

        void pull(Folk folk) {
            Arrays.fill(pulls, 0);
            for (int i = 0; i < folk.heedCount; i++) {
                pulls[folk.heeders[i]] += folk.weights[i] * beliefs[folk.heededs[i]];
            }
        }

        /** One ROUND; answers who changed, as bits. All pulls are known before anybody changes. */
        int step(Folk folk) {
            pull(folk);
            int changed = 0;
            for (int p = 0; p < folk.count; p++) {
                int turned = turnedBelief(folk.kinds[p], p);
                if (turned != beliefs[p]) {
                    beliefs[p] = turned;
                    changed |= 1 << p;
                }
            }
            return changed;
        }

        /** Who heeds nobody has a pull of 0, by which nobody changes. */
        private int turnedBelief(int kind, int p) {
            if (pulls[p] == 0 || kind == LADY && beliefs[p] == 1 || kind == FIRST && beliefs[p] == -1) {
                return beliefs[p];
            }
            return pulls[p] > 0 ? 1 : -1;
        }

        /** A ROUND that changes nothing is followed by none that does. */
        void go(Folk folk, int rounds) {
            for (int i = 0; i < rounds; i++) {
                if (step(folk) == 0) {
                    return;
                }
            }
        }

        int believing(Folk folk) {
            int bits = 0;
            for (int p = 0; p < folk.count; p++) {
                if (beliefs[p] == 1) {
                    bits |= 1 << p;
                }
            }
            return bits;
        }

        int roundsToRest(Folk folk) {
            for (int rounds = 0; rounds <= MOST_ROUNDS; rounds++) {
                if (step(folk) == 0) {
                    return rounds;
                }
            }
            return NOWHERE;
        }

        private int believingIfWon(Folk folk, Now now, int people) {
            begin(now);
            for (int p = 0; p < folk.count; p++) {
                if ((people >> p & 1) == 1) {
                    beliefs[p] = 1;
                }
            }
            go(folk, MOST_ROUNDS);
            return believing(folk);
        }

        int fewestToWin(Folk folk, Now now) {
            int all = folk.everybody();
            int best = NOWHERE;
            int fewest = MOST_PEOPLE + 1;
            for (int people = 0; people <= all; people++) {
                if (Integer.bitCount(people) < fewest && believingIfWon(folk, now, people) == all) {
                    best = people;
                    fewest = Integer.bitCount(people);
                }
            }
            return best;
        }

        int bestPreacher(Folk folk, Now now) {
            int best = NOWHERE;
            int most = NONE;
            for (int p = 0; p < folk.count; p++) {
                int won = Integer.bitCount(believingIfWon(folk, now, 1 << p));
                if (won > most) {
                    best = p;
                    most = won;
                }
            }
            return best;
        }
    }
}
