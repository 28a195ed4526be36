import java.util.Arrays;

/** A machine that starts from one of two slots, or from recovery; README.md tells how to use it. */
public final class TwinSlots {
    public static final int NONE = -1;

    private static final int POWER_FAILED = -2;
    private static final int NO_SUCH = -2;
    private static final int UNKNOWN = -3;
    private static final int TAPE_BYTES = 300;
    private static final int FEED_BYTES = 20;

    private static final int RECOVERY = 2;
    private static final int NOTHING = 3;

    private static final int BOOT = 0;
    private static final int HEALTH = 1;
    private static final int INSTALL = 2;
    private static final int REFRESH = 3;
    private static final int PREFER = 4;
    private static final int MEND = 5;
    private static final int RESUME = 6;

    private static final int MOST_KEYS = 6;
    private static final int MOST_IMAGES = 6;
    private static final int MOST_PARTS = 4;
    private static final int MOST_REVOKED = 4;
    private static final int VERSION_FUSES = 31;
    private static final int WORDS = 14;
    private static final int WORD_BITS = 31;
    private static final int STORES = 4;
    private static final int PAGE_BYTES = 8;
    private static final int FAILURES_MOST = 255;
    private static final int MOST_WAIT = 200;
    private static final int MOST_LIFE = 60;

    // All that UNDO brings back lies in one row of cells, so that one copy keeps it: these are its places.
    private static final int PAGES = STORES * WORDS;
    private static final int JOURNAL = PAGES + 2 * PAGE_BYTES;
    private static final int ROLLBACK = JOURNAL + 4;
    private static final int KEY_FUSES = ROLLBACK + 1;
    private static final int RUNNING = KEY_FUSES + 1;
    private static final int TICKS = RUNNING + 1;
    private static final int TOLD = TICKS + 1;
    private static final int LATEST_WRITES = TOLD + 1;
    private static final int STARTS = LATEST_WRITES + 1;
    private static final int START_ROW = STARTS + 1;
    private static final int KEPT_STARTS = 12;
    private static final int CELLS = START_ROW + 2 * KEPT_STARTS;

    private final int[] tape;
    private int taped;
    private final Bundle bundle;
    private final Bundle draft;
    private final Reader reader;
    private final Machine machine;
    private final Past past;
    private final Trials trials;
    private final Lives lives;
    private final Routes routes;
    private int x;

    public TwinSlots() {
        int[] bytes = new int[TAPE_BYTES];
        Bundle drafted = new Bundle();
        Bundle told = new Bundle();
        Machine real = new Machine(told);
        tape = bytes;
        draft = drafted;
        reader = new Reader(bytes, drafted);
        bundle = told;
        machine = real;
        past = new Past(real);
        trials = new Trials(told, real);
        lives = new Lives(told, real);
        routes = new Routes(told, real);
    }

    // ---- the tape and the bundle

    public int feed(int a, int b, int c, int d, int e) {
        if (taped > TAPE_BYTES - FEED_BYTES) {
            return NONE;
        }
        feedNumber(a);
        feedNumber(b);
        feedNumber(c);
        feedNumber(d);
        feedNumber(e);
        return taped;
    }

    private void feedNumber(int number) {
        for (int shift = 24; shift >= 0; shift -= 8) {
            Rows.put(tape, taped, (number >> shift) & 255);
            taped++;
        }
    }

    public int end(int n) {
        if (n < 0 || n > taped) {
            return NONE;
        }
        taped = n;
        return n;
    }

    public int bundle() {
        int length = taped;
        taped = 0;
        int fault = reader.read(length);
        if (fault != NONE) {
            return -2 - fault;
        }
        bundle.take(draft);
        past.forget();
        return reader.lines;
    }

    public int image(int image, int k) {
        if (!bundle.hasImage(image) || k < 0 || k >= WORDS) {
            return NONE;
        }
        return Rows.at(bundle.words, image * WORDS + k);
    }

    // ---- the acts

    public boolean factory(int image) {
        if (machine.isOn() || !bundle.hasRecoveryImage(image)) {
            return false;
        }
        past.keep();
        machine.putImage(RECOVERY, image);
        machine.putImage(RECOVERY + 1, image);
        return true;
    }

    public int boot(boolean button, int cut) {
        return act(BOOT, button ? 1 : 0, 0, cut);
    }

    public int health(int cut) {
        return act(HEALTH, 0, 0, cut);
    }

    public int install(int slot, int image, int cut) {
        return act(INSTALL, slot, image, cut);
    }

    public int refresh(int image, int cut) {
        return act(REFRESH, 0, image, cut);
    }

    public int prefer(int slot, int cut) {
        return act(PREFER, slot, 0, cut);
    }

    public int mend(int cut) {
        return act(MEND, 0, 0, cut);
    }

    public int resume(int cut) {
        return act(RESUME, 0, 0, cut);
    }

    private int act(int deed, int a, int b, int cut) {
        if (cut < NONE || !machine.isAble(deed, a, b)) {
            return NONE;
        }
        past.keep();
        return machine.perform(deed, a, b, cut);
    }

    public int waits(int n) {
        if (n < 1 || n > MOST_WAIT || !machine.isOn()) {
            return NONE;
        }
        past.keep();
        return machine.passTicks(n);
    }

    public boolean off() {
        if (!machine.isOn()) {
            return false;
        }
        past.keep();
        machine.turnOff();
        return true;
    }

    public int flip(int store, int word, int bit) {
        if (!isStore(store) || word < 0 || word >= WORDS || bit < 0 || bit >= WORD_BITS) {
            return NONE;
        }
        past.keep();
        return machine.turnBit(store * WORDS + word, bit);
    }

    public int blot(int page, int place, int bit) {
        if (!isPage(page) || place < 0 || place >= PAGE_BYTES || bit < 0 || bit > 7) {
            return NONE;
        }
        past.keep();
        return machine.turnBit(PAGES + page * PAGE_BYTES + place, bit);
    }

    public int undo() {
        return past.bringBack();
    }

    // ---- what the store holds

    public int word(int store, int k) {
        if (!isStore(store) || k < 0 || k >= WORDS) {
            return NONE;
        }
        return machine.cell(store * WORDS + k);
    }

    public int octet(int page, int place) {
        if (!isPage(page) || place < 0 || place >= PAGE_BYTES) {
            return NONE;
        }
        return machine.cell(PAGES + page * PAGE_BYTES + place);
    }

    public int journal(int place) {
        if (place < 0 || place > 3) {
            return NONE;
        }
        return machine.cell(JOURNAL + place);
    }

    public int revoked(int key) {
        if (!bundle.hasKey(key)) {
            return NONE;
        }
        return machine.isRevoked(key) ? 1 : 0;
    }

    public int whole(int page) {
        if (!isPage(page)) {
            return NONE;
        }
        return machine.isWhole(page) ? 1 : 0;
    }

    public int flag(int slot, int what) {
        if (!isSlot(slot)) {
            return NONE;
        }
        machine.readFlags();
        int flags = machine.slotFlags(slot);
        switch (what) {
            case 0:
                return flags >> 4;
            case 1:
                return (flags >> 1) & 7;
            case 2:
                return flags & 1;
            default:
                return NONE;
        }
    }

    public int why(int store) {
        return isStore(store) ? machine.reasonAgainst(store) : NONE;
    }

    // ---- what is asked

    public int next(boolean button) {
        return trials.nextStart(button);
    }

    public int cuts(int deed, int a, int b, int what) {
        return trials.countCuts(deed, a, b, what);
    }

    public int twice(int deed, int a, int b) {
        return trials.countTwos(deed, a, b);
    }

    public int lasts(int what) {
        return trials.bootsWithoutHealth(what);
    }

    public int slack(int store) {
        return isStore(store) ? trials.slackBits(store) : NONE;
    }

    public int frail(int what) {
        return trials.frailBits(what);
    }

    public int route(int version, int k) {
        if (version < 0 || version >= VERSION_FUSES || k < NONE) {
            return NONE;
        }
        int outcome = routes.search(version);
        if (outcome == Routes.FOUND) {
            return routes.moveOrLength(k);
        }
        return outcome == Routes.LOST ? UNKNOWN : NO_SUCH;
    }

    public int draws(int x) {
        if (x < 0) {
            return NONE;
        }
        int before = this.x;
        this.x = x;
        return before;
    }

    public int life(int n, int what) {
        if (n < 1 || n > MOST_LIFE || bundle.images == 0) {
            return NONE;
        }
        return lives.answer(n, what, x);
    }

    public int started(int k, int what) {
        int starts = machine.cell(STARTS);
        if (k < 0 || k >= KEPT_STARTS || k >= starts || what < 0 || what > 1) {
            return NONE;
        }
        return machine.cell(START_ROW + 2 * ((starts - 1 - k) % KEPT_STARTS) + what);
    }

    public int least(int what) {
        if (what != 0 && what != 1) {
            return NONE;
        }
        boolean a = machine.reasonAgainst(0) == 0;
        boolean b = machine.reasonAgainst(1) == 0;
        if (!a && !b) {
            return NO_SUCH;
        }
        int versionA = machine.version(a ? 0 : 1);
        int versionB = machine.version(b ? 1 : 0);
        return what == 0 ? Math.min(versionA, versionB) : Math.max(versionA, versionB);
    }

    public int count(int what) {
        switch (what) {
            case 0:
                return bundle.keys;
            case 1:
                return bundle.images;
            case 2:
                return bundle.limit;
            case 3:
                return bundle.tries;
            case 4:
                return machine.cell(ROLLBACK);
            case 5:
                return machine.cell(KEY_FUSES);
            case 6:
                return machine.cell(RUNNING);
            case 11:
                return past.depth;
            case 12:
                return x;
            case 13:
                return taped;
            case 14:
                return machine.cell(LATEST_WRITES);
            case 15:
                return bundle.watch;
            case 16:
                return machine.cell(TICKS);
            case 17:
                return machine.cell(TOLD);
            case 18:
                return machine.isJournalOpen() ? 1 : 0;
            default:
                return countOfFlags(what);
        }
    }

    private int countOfFlags(int what) {
        machine.readFlags();
        switch (what) {
            case 7:
                return machine.failures;
            case 8:
                return machine.last;
            case 9:
                return machine.newest;
            case 10:
                return machine.newest == NONE ? NONE : machine.sequence(machine.newest);
            default:
                return NONE;
        }
    }

    private static boolean isSlot(int slot) {
        return slot == 0 || slot == 1;
    }

    private static boolean isPage(int page) {
        return page == 0 || page == 1;
    }

    private static boolean isStore(int store) {
        return store >= 0 && store < STORES;
    }

    /** Rows are read and written here, so that an index is looked at before it is used. */
    private static final class Rows {
        static int at(int[] row, int i) {
            return row != null && i >= 0 && i < row.length ? row[i] : 0;
        }

        static void put(int[] row, int i, int value) {
            if (row != null && i >= 0 && i < row.length) {
                row[i] = value;
            }
        }

        static void copy(int[] from, int fromAt, int[] to, int toAt, int n) {
            if (from == null || to == null || n < 0 || fromAt < 0 || toAt < 0) {
                return;
            }
            if (fromAt <= from.length - n && toAt <= to.length - n) {
                System.arraycopy(from, fromAt, to, toAt, n);
            }
        }
    }

    /** What a text has told: keys, the words of the images, and three numbers. */
    private static final class Bundle {
        int keys;
        int images;
        int limit;
        int tries;
        int watch;
        final int[] secrets;
        final int[] under;
        final int[] words;

        Bundle() {
            secrets = new int[MOST_KEYS];
            under = new int[MOST_KEYS];
            words = new int[MOST_IMAGES * WORDS];
            limit = 3;
            tries = 3;
            watch = 20;
        }

        void clear() {
            keys = 0;
            images = 0;
            limit = 3;
            tries = 3;
            watch = 20;
            Arrays.fill(words, 0);
        }

        void take(Bundle other) {
            keys = other.keys;
            images = other.images;
            limit = other.limit;
            tries = other.tries;
            watch = other.watch;
            Rows.copy(other.secrets, 0, secrets, 0, MOST_KEYS);
            Rows.copy(other.under, 0, under, 0, MOST_KEYS);
            Rows.copy(other.words, 0, words, 0, MOST_IMAGES * WORDS);
        }

        boolean hasKey(int key) {
            return key >= 0 && key < keys;
        }

        boolean hasImage(int image) {
            return image >= 0 && image < images;
        }

        boolean hasRecoveryImage(int image) {
            return hasImage(image) && Rows.at(words, image * WORDS + 1) == 0;
        }

        void addKey(int secret, int above) {
            Rows.put(secrets, keys, secret);
            Rows.put(under, keys, above);
            keys++;
        }

        /** The image's parts stand in its words already (6, 8, ..); the digests come from the last part on. */
        void addImage(int version, int key, int revokes, int parts) {
            int base = images * WORDS;
            int behind = 0;
            for (int part = parts - 1; part >= 0; part--) {
                Rows.put(words, base + 7 + 2 * part, behind);
                behind = digest(Rows.at(words, base + 6 + 2 * part), behind);
            }
            Rows.put(words, base, version + 1);
            Rows.put(words, base + 1, key);
            Rows.put(words, base + 2, revokes);
            Rows.put(words, base + 3, parts);
            Rows.put(words, base + 4, behind);
            Rows.put(words, base + 5, sign(words, base));
            images++;
        }

        static int digest(int part, int behind) {
            return ((part + 527) * 31 + behind) & 65535;
        }

        /** The SIGN of the five words from a place of a row on, by the key that they name. */
        int sign(int[] row, int base) {
            int h = Rows.at(secrets, Rows.at(row, base + 1)) + 7;
            for (int k = 0; k < 5; k++) {
                h = (h * 31 + Rows.at(row, base + k)) & 65535;
            }
            return h;
        }
    }

    /** Reads a bundle's text from its first byte on; the first fault ends it. */
    private static final class Reader {
        private static final int WRONG = 1;
        private static final int NOT_AS_TOLD = 2;
        private static final int TOO_MANY_LINES = 3;
        private static final int TOO_MANY_NUMBERS = 4;
        private static final int BEYOND = 1000000;

        private final int[] text;
        private final Bundle into;
        private int length;
        private int place;
        private int fault;
        private int number;
        private int numberPlace;
        private boolean limitTold;
        private boolean triesTold;
        private boolean watchTold;
        int lines;

        Reader(int[] text, Bundle into) {
            this.text = text;
            this.into = into;
        }

        /** The FAULT, or NONE: then the draft holds the bundle. */
        int read(int bytes) {
            length = bytes;
            place = 0;
            fault = NONE;
            lines = 0;
            limitTold = false;
            triesTold = false;
            watchTold = false;
            into.clear();
            for (int line = 0; line <= length; line++) {
                if (!readLine()) {
                    return fault;
                }
                lines++;
                skipBlanks();
                if (place >= length) {
                    return NONE;
                }
                if (byteAt(place) != ';') {
                    fail(place, WRONG);
                    return fault;
                }
                place++;
            }
            return fault;
        }

        private boolean readLine() {
            skipBlanks();
            int start = place;
            if (takeWord("key")) {
                return readKey(start);
            }
            if (takeWord("image")) {
                return readImage(start);
            }
            if (takeWord("limit")) {
                return readLimit(start);
            }
            if (takeWord("tries")) {
                return readTries(start);
            }
            if (takeWord("watch")) {
                return readWatch(start);
            }
            return fail(start, WRONG);
        }

        private boolean readKey(int start) {
            if (into.keys >= MOST_KEYS) {
                return fail(start, TOO_MANY_LINES);
            }
            if (!takeNumber(0, 9999)) {
                return false;
            }
            int secret = number;
            int above = NONE;
            if (takeWord("under")) {
                if (!takeNumber(0, into.keys - 1)) {
                    return false;
                }
                above = number;
            }
            into.addKey(secret, above);
            return true;
        }

        private boolean readImage(int start) {
            if (into.images >= MOST_IMAGES) {
                return fail(start, TOO_MANY_LINES);
            }
            if (!takeNumber(0, 30)) {
                return false;
            }
            int version = number;
            if (!takeNumber(0, into.keys - 1)) {
                return false;
            }
            int key = number;
            int revokes = takeWord("revokes") ? readRevoked() : 0;
            if (revokes == NONE) {
                return false;
            }
            if (!takeWord("parts")) {
                return fail(place, WRONG);
            }
            int parts = readParts();
            if (parts == NONE) {
                return false;
            }
            into.addImage(version, key, revokes, parts);
            return true;
        }

        /** The keys as bits, or NONE at a fault. */
        private int readRevoked() {
            int bits = 0;
            for (int told = 0; told <= MOST_REVOKED; told++) {
                if (!takeNumber(0, into.keys - 1)) {
                    return NONE;
                }
                if (told == MOST_REVOKED) {
                    fail(numberPlace, TOO_MANY_NUMBERS);
                    return NONE;
                }
                bits |= 1 << number;
                skipBlanks();
                if (byteAt(place) != ',') {
                    return bits;
                }
                place++;
            }
            return NONE;
        }

        /** How many parts, or NONE at a fault; they lie in the words of the image that comes. */
        private int readParts() {
            for (int told = 0; told <= MOST_PARTS; told++) {
                if (!takeNumber(0, 99999)) {
                    return NONE;
                }
                if (told == MOST_PARTS) {
                    fail(numberPlace, TOO_MANY_NUMBERS);
                    return NONE;
                }
                Rows.put(into.words, into.images * WORDS + 6 + 2 * told, number);
                skipBlanks();
                if (!isDigit(byteAt(place))) {
                    return told + 1;
                }
            }
            return NONE;
        }

        private boolean readLimit(int start) {
            if (limitTold) {
                return fail(start, TOO_MANY_LINES);
            }
            limitTold = true;
            if (!takeNumber(1, 9)) {
                return false;
            }
            into.limit = number;
            return true;
        }

        private boolean readTries(int start) {
            if (triesTold) {
                return fail(start, TOO_MANY_LINES);
            }
            triesTold = true;
            if (!takeNumber(1, 7)) {
                return false;
            }
            into.tries = number;
            return true;
        }

        private boolean readWatch(int start) {
            if (watchTold) {
                return fail(start, TOO_MANY_LINES);
            }
            watchTold = true;
            if (!takeNumber(1, 99)) {
                return false;
            }
            into.watch = number;
            return true;
        }

        /** Goes behind a word, if it is the one that stands next. */
        private boolean takeWord(String word) {
            skipBlanks();
            for (int i = 0; i < word.length(); i++) {
                if (byteAt(place + i) != word.charAt(i)) {
                    return false;
                }
            }
            if (isLetter(byteAt(place + word.length()))) {
                return false;
            }
            place += word.length();
            return true;
        }

        /** Goes behind a number and keeps it; its digits may go on beyond what an int holds. */
        private boolean takeNumber(int least, int most) {
            skipBlanks();
            numberPlace = place;
            if (!isDigit(byteAt(place))) {
                return fail(place, WRONG);
            }
            number = 0;
            while (place < length && isDigit(byteAt(place))) {
                number = Math.min(number * 10 + byteAt(place) - '0', BEYOND);
                place++;
            }
            if (number < least || number > most) {
                return fail(numberPlace, NOT_AS_TOLD);
            }
            return true;
        }

        private void skipBlanks() {
            while (place < length && byteAt(place) == ' ') {
                place++;
            }
        }

        private int byteAt(int i) {
            return i >= 0 && i < length && i < text.length ? text[i] : NONE;
        }

        private boolean fail(int where, int what) {
            fault = 8 * where + what;
            return false;
        }

        private static boolean isLetter(int b) {
            return b >= 'a' && b <= 'z';
        }

        private static boolean isDigit(int b) {
            return b >= '0' && b <= '9';
        }
    }

    /** The store, what is running, and the deeds, write by write. */
    private static final class Machine {
        private static final int MARK = 165;
        private static final int OPEN = 90;
        private static final int CLEARED = 255;

        private final Bundle bundle;
        private final int[] cells;
        // The flags as a deed has them in hand: each as it stands in its byte of a page.
        private int flagsA;
        private int flagsB;
        int failures;
        int last;
        int newest;
        private int cut;
        private int writes;
        private boolean failed;

        Machine(Bundle bundle) {
            this.bundle = bundle;
            cells = new int[CELLS];
            for (int at = PAGES; at < ROLLBACK; at++) {
                setCell(at, CLEARED);
            }
            setCell(RUNNING, NONE);
        }

        // -- cells, whole and one by one

        int cell(int at) {
            return at >= 0 && at < cells.length ? cells[at] : 0;
        }

        void setCell(int at, int value) {
            if (at >= 0 && at < cells.length) {
                cells[at] = value;
            }
        }

        int turnBit(int at, int bit) {
            setCell(at, cell(at) ^ (1 << bit));
            return cell(at);
        }

        void takeFrom(Machine other) {
            Rows.copy(other.cells, 0, cells, 0, CELLS);
        }

        void saveTo(int[] row, int at) {
            Rows.copy(cells, 0, row, at, CELLS);
        }

        void loadFrom(int[] row, int at) {
            Rows.copy(row, at, cells, 0, CELLS);
        }

        void putImage(int store, int image) {
            Rows.copy(bundle.words, image * WORDS, cells, store * WORDS, WORDS);
        }

        boolean holdsImage(int store, int image) {
            for (int k = 0; k < WORDS; k++) {
                if (cell(store * WORDS + k) != Rows.at(bundle.words, image * WORDS + k)) {
                    return false;
                }
            }
            return true;
        }

        boolean isOn() {
            return cell(RUNNING) != NONE;
        }

        void turnOff() {
            setCell(RUNNING, NONE);
        }

        // -- pages and flags

        boolean isWhole(int page) {
            int base = PAGES + page * PAGE_BYTES;
            int check = 0;
            for (int k = 0; k < 6; k++) {
                check += (k + 1) * cell(base + k);
            }
            return cell(base) == MARK && cell(base + 6) * 256 + cell(base + 7) == check;
        }

        int sequence(int page) {
            return cell(PAGES + page * PAGE_BYTES + 1);
        }

        private int newestPage() {
            boolean zero = isWhole(0);
            boolean one = isWhole(1);
            if (zero && one) {
                return sequence(1) == ((sequence(0) + 1) & 255) ? 1 : 0;
            }
            if (zero) {
                return 0;
            }
            return one ? 1 : NONE;
        }

        void readFlags() {
            newest = newestPage();
            if (newest == NONE) {
                takeFlags(0, 0, 0, NOTHING);
                return;
            }
            int base = PAGES + newest * PAGE_BYTES;
            takeFlags(cell(base + 2), cell(base + 3), cell(base + 4), cell(base + 5));
        }

        private void takeFlags(int a, int b, int failuresThen, int lastThen) {
            flagsA = a;
            flagsB = b;
            failures = failuresThen;
            last = lastThen;
        }

        int slotFlags(int slot) {
            return slot == 0 ? flagsA : flagsB;
        }

        private void setSlotFlags(int slot, int flags) {
            if (slot == 0) {
                flagsA = flags;
            } else {
                flagsB = flags;
            }
        }

        /** The flags (but the sequence) as one number, by which they are compared. */
        int flagsAsOne() {
            readFlags();
            return (flagsA << 24) | (flagsB << 16) | (failures << 8) | last;
        }

        /** Puts flags into the store without a write's count or a cut. */
        void putFlags(int a, int b, int failuresThen, int lastThen) {
            takeFlags(a, b, failuresThen, lastThen);
            for (int at = PAGES; at < JOURNAL; at++) {
                setCell(at, CLEARED);
            }
            newest = NONE;
            cut = NONE;
            writeFlags();
        }

        private void writeFlags() {
            int page = newest == 0 ? 1 : 0;
            int next = newest == NONE ? 0 : (sequence(newest) + 1) & 255;
            int base = PAGES + page * PAGE_BYTES;
            int sum = MARK + 2 * next + 3 * flagsA + 4 * flagsB + 5 * failures + 6 * last;
            write(base, PAGE_BYTES, CLEARED);
            write(base, 1, MARK);
            write(base + 1, 1, next);
            write(base + 2, 1, flagsA);
            write(base + 3, 1, flagsB);
            write(base + 4, 1, failures);
            write(base + 5, 1, last);
            write(base + 6, 1, sum / 256);
            write(base + 7, 1, sum % 256);
            // A page that was written is whole and follows the other one, so it is the newest.
            newest = page;
        }

        /** One WRITE: of one cell, or of all of a page that is cleared. */
        private void write(int at, int n, int value) {
            if (cut != NONE && writes >= cut) {
                failed = true;
                return;
            }
            writes++;
            for (int i = at; i < at + n; i++) {
                if (i >= 0 && i < cells.length) {
                    cells[i] = value;
                }
            }
        }

        // -- what can start

        boolean isRevoked(int key) {
            int above = key;
            for (int step = 0; step < MOST_KEYS && above >= 0; step++) {
                if (((cell(KEY_FUSES) >> above) & 1) == 1) {
                    return true;
                }
                above = Rows.at(bundle.under, above);
            }
            return false;
        }

        int version(int store) {
            return cell(store * WORDS) - 1;
        }

        int reasonAgainst(int store) {
            int base = store * WORDS;
            int version = version(store);
            int key = cell(base + 1);
            int parts = cell(base + 3);
            if (version < 0 || version > 30 || !bundle.hasKey(key) || parts < 1 || parts > MOST_PARTS) {
                return 1;
            }
            if (cell(base + 5) != bundle.sign(cells, base)) {
                return 2;
            }
            if (store >= RECOVERY) {
                if (key != 0) {
                    return 3;
                }
            } else if (isRevoked(key)) {
                return 3;
            } else if (version < cell(ROLLBACK)) {
                return 4;
            }
            return hasSoundParts(base, parts) ? 0 : 5;
        }

        private boolean hasSoundParts(int base, int parts) {
            int told = cell(base + 4);
            for (int part = 0; part < parts; part++) {
                int behind = cell(base + 7 + 2 * part);
                if (Bundle.digest(cell(base + 6 + 2 * part), behind) != told) {
                    return false;
                }
                told = behind;
            }
            return told == 0;
        }

        private int recoveryCopy() {
            boolean second = reasonAgainst(RECOVERY) == 0;
            boolean third = reasonAgainst(RECOVERY + 1) == 0;
            if (second && third) {
                return version(RECOVERY + 1) > version(RECOVERY) ? RECOVERY + 1 : RECOVERY;
            }
            if (second) {
                return RECOVERY;
            }
            return third ? RECOVERY + 1 : NONE;
        }

        boolean isJournalOpen() {
            int slot = cell(JOURNAL);
            int image = cell(JOURNAL + 1);
            int open = cell(JOURNAL + 2);
            return open == OPEN && cell(JOURNAL + 3) == ((slot + image + open) & 255)
                && isSlot(slot) && bundle.hasImage(image);
        }

        // -- the deeds

        /** Whether a deed can be done now, and has the arguments that it takes. */
        boolean isAble(int deed, int a, int b) {
            int running = cell(RUNNING);
            if (deed == BOOT) {
                return running == NONE && (a == 0 || a == 1) && b == 0;
            }
            if (running == NONE) {
                return false;
            }
            switch (deed) {
                case HEALTH:
                case MEND:
                    return a == 0 && b == 0;
                case INSTALL:
                    return isSlot(a) && a != running && bundle.hasImage(b);
                case REFRESH:
                    return a == 0 && bundle.hasRecoveryImage(b);
                case PREFER:
                    return isSlot(a) && b == 0;
                case RESUME:
                    return a == 0 && b == 0 && isJournalOpen() && cell(JOURNAL) != running;
                default:
                    return false;
            }
        }

        /** Does a deed that is able; behind a cut its steps go on, but none of their writes is done. */
        int perform(int deed, int a, int b, int cutBehind) {
            cut = cutBehind;
            writes = 0;
            failed = false;
            readFlags();
            int answer = NONE;
            switch (deed) {
                case BOOT:
                    answer = startSlot(a == 1);
                    if (answer == NONE) {
                        answer = startRecovery(recoveryCopy());
                    }
                    break;
                case HEALTH:
                    answer = tellHealth();
                    break;
                case INSTALL:
                    openJournal(a, b);
                    answer = finishInstall(a, b);
                    break;
                case REFRESH:
                    answer = refreshOther(recoveryCopy(), b);
                    break;
                case PREFER:
                    favour(a);
                    writeFlags();
                    answer = slotFlags(1 - a) >> 4;
                    break;
                case MEND:
                    answer = mendBoth();
                    break;
                case RESUME:
                    answer = finishInstall(cell(JOURNAL), cell(JOURNAL + 1));
                    break;
                default:
                    break;
            }
            setCell(LATEST_WRITES, writes);
            if (failed) {
                turnOff();
                return POWER_FAILED;
            }
            return answer;
        }

        /** The slot that starts, or NONE: then it is the turn of recovery. */
        private int startSlot(boolean button) {
            if (button || failures >= bundle.limit) {
                return NONE;
            }
            // A slot that cannot start is out of the choice from then on, so there are two turns at most.
            for (int turn = 0; turn < 2; turn++) {
                int slot = chosenSlot();
                if (slot == NONE) {
                    return NONE;
                }
                if (reasonAgainst(slot) == 0) {
                    countTry(slot);
                    writeFlags();
                    noteStart(slot, version(slot));
                    return slot;
                }
                setSlotFlags(slot, 0);
                writeFlags();
            }
            return NONE;
        }

        private int chosenSlot() {
            int a = standing(flagsA);
            int b = standing(flagsB);
            if (a == 0 && b == 0) {
                return NONE;
            }
            return a >= b ? 0 : 1;
        }

        /** The priority of a slot that is good or has tries; 0: it is not of the choice. */
        private static int standing(int flags) {
            return (flags & 15) == 0 ? 0 : flags >> 4;
        }

        private void countTry(int slot) {
            int flags = slotFlags(slot);
            if ((flags & 1) == 0) {
                setSlotFlags(slot, flags - 2);
            }
            failures = Math.min(failures + 1, FAILURES_MOST);
            last = slot;
        }

        private int startRecovery(int copy) {
            if (copy == NONE) {
                return NOTHING;
            }
            last = RECOVERY;
            writeFlags();
            noteStart(RECOVERY, version(copy));
            return RECOVERY;
        }

        private void noteStart(int what, int version) {
            if (failed) {
                return;
            }
            int starts = cell(STARTS);
            int place = START_ROW + 2 * (starts % KEPT_STARTS);
            setCell(place, what);
            setCell(place + 1, version);
            setCell(STARTS, starts + 1);
            setCell(RUNNING, what);
            setCell(TICKS, 0);
            setCell(TOLD, 0);
        }

        private int tellHealth() {
            int running = cell(RUNNING);
            failures = 0;
            if (isSlot(running)) {
                setSlotFlags(running, (slotFlags(running) & 240) + 2 * bundle.tries + 1);
            }
            writeFlags();
            if (isSlot(running)) {
                blowVersionFuses(version(running));
                blowKeyFuses(cell(running * WORDS + 2));
            }
            if (!failed) {
                setCell(TOLD, 1);
            }
            return cell(ROLLBACK);
        }

        private void blowVersionFuses(int version) {
            int due = Math.min(version, VERSION_FUSES);
            for (int blown = cell(ROLLBACK); blown < due; blown++) {
                write(ROLLBACK, 1, blown + 1);
            }
        }

        private void blowKeyFuses(int revokes) {
            for (int key = 0; key < MOST_KEYS; key++) {
                int bit = 1 << key;
                int blown = cell(KEY_FUSES);
                if ((revokes & bit) != 0 && (blown & bit) == 0) {
                    write(KEY_FUSES, 1, blown | bit);
                }
            }
        }

        private void openJournal(int slot, int image) {
            write(JOURNAL + 2, 1, 0);
            write(JOURNAL, 1, slot);
            write(JOURNAL + 1, 1, image);
            write(JOURNAL + 3, 1, (slot + image + OPEN) & 255);
            write(JOURNAL + 2, 1, OPEN);
        }

        private int finishInstall(int slot, int image) {
            setSlotFlags(slot, 0);
            writeFlags();
            lay(slot, bundle.words, image * WORDS);
            setSlotFlags(slot, 2 * bundle.tries);
            favour(slot);
            writeFlags();
            write(JOURNAL + 2, 1, 0);
            return writes;
        }

        private void favour(int slot) {
            setSlotFlags(slot, 240 + (slotFlags(slot) & 15));
            int other = slotFlags(1 - slot);
            if (other >= 240) {
                setSlotFlags(1 - slot, other - 16);
            }
        }

        private int refreshOther(int starting, int image) {
            int copy = starting == RECOVERY ? RECOVERY + 1 : RECOVERY;
            lay(copy, bundle.words, image * WORDS);
            return copy;
        }

        private int mendBoth() {
            int done = 0;
            if (isWhole(0) != isWhole(1)) {
                writeFlags();
                done = 1;
            }
            boolean second = reasonAgainst(RECOVERY) == 0;
            boolean third = reasonAgainst(RECOVERY + 1) == 0;
            if (second != third) {
                int sound = second ? RECOVERY : RECOVERY + 1;
                int other = second ? RECOVERY + 1 : RECOVERY;
                lay(other, cells, sound * WORDS);
                done += 2;
            }
            return done;
        }

        /** The first word is 0 till all others stand, so that a store half laid cannot start. */
        private void lay(int store, int[] row, int from) {
            int base = store * WORDS;
            write(base, 1, 0);
            for (int k = WORDS - 1; k >= 0; k--) {
                write(base + k, 1, Rows.at(row, from + k));
            }
        }

        int passTicks(int n) {
            int boots = 0;
            for (int tick = 0; tick < n && isOn(); tick++) {
                int ticks = cell(TICKS) + 1;
                setCell(TICKS, ticks);
                if (isSlot(cell(RUNNING)) && cell(TOLD) == 0 && ticks >= bundle.watch) {
                    turnOff();
                    perform(BOOT, 0, 0, NONE);
                    setCell(TICKS, 0);
                    boots++;
                }
            }
            return boots;
        }
    }

    /** The machine as it stood ahead of each of the latest acts. */
    private static final class Past {
        private static final int KEPT = 12;

        private final Machine machine;
        private final int[] rows;
        private int top;
        int depth;

        Past(Machine machine) {
            this.machine = machine;
            rows = new int[KEPT * CELLS];
        }

        void keep() {
            machine.saveTo(rows, top * CELLS);
            top = (top + 1) % KEPT;
            depth = Math.min(depth + 1, KEPT);
        }

        int bringBack() {
            if (depth == 0) {
                return NONE;
            }
            top = (top + KEPT - 1) % KEPT;
            depth--;
            machine.loadFrom(rows, top * CELLS);
            return depth;
        }

        void forget() {
            depth = 0;
        }
    }

    /** What is asked of cuts, boots and bits: tried on other machines, so that the real one stays. */
    private static final class Trials {
        private static final int MOST_BOOTS = 60;

        private final Machine real;
        private final Machine tried;
        private final Machine again;

        Trials(Bundle bundle, Machine real) {
            this.real = real;
            tried = new Machine(bundle);
            again = new Machine(bundle);
        }

        int nextStart(boolean button) {
            tried.takeFrom(real);
            tried.turnOff();
            return tried.perform(BOOT, button ? 1 : 0, 0, NONE);
        }

        private int writesOf(int deed, int a, int b) {
            tried.takeFrom(real);
            tried.perform(deed, a, b, NONE);
            return tried.cell(LATEST_WRITES);
        }

        int countCuts(int deed, int a, int b, int what) {
            if (what < 0 || what > 6 || !real.isAble(deed, a, b)) {
                return NONE;
            }
            int writes = writesOf(deed, a, b);
            if (what == 0) {
                return writes;
            }
            int due = what == 5 ? real.flagsAsOne() : tried.flagsAsOne();
            int counted = 0;
            for (int n = 0; n < writes; n++) {
                tried.takeFrom(real);
                tried.perform(deed, a, b, n);
                boolean counts = what >= 5
                    ? tried.flagsAsOne() == due
                    : tried.perform(BOOT, 0, 0, NONE) == what - 1;
                counted += counts ? 1 : 0;
            }
            return counted;
        }

        int countTwos(int deed, int a, int b) {
            if (!real.isAble(deed, a, b)) {
                return NONE;
            }
            int writes = writesOf(deed, a, b);
            int counted = 0;
            for (int n = 0; n < writes; n++) {
                tried.takeFrom(real);
                tried.perform(deed, a, b, n);
                counted += countDeadBoots();
            }
            return counted;
        }

        /** Of the cuts of a boot of the machine that is tried: behind how many a boot starts nothing. */
        private int countDeadBoots() {
            again.takeFrom(tried);
            again.perform(BOOT, 0, 0, NONE);
            int writes = again.cell(LATEST_WRITES);
            int counted = 0;
            for (int m = 0; m < writes; m++) {
                again.takeFrom(tried);
                again.perform(BOOT, 0, 0, m);
                if (again.perform(BOOT, 0, 0, NONE) == NOTHING) {
                    counted++;
                }
            }
            return counted;
        }

        int bootsWithoutHealth(int what) {
            if (what != 0 && what != 1) {
                return NONE;
            }
            tried.takeFrom(real);
            for (int boots = 1; boots <= MOST_BOOTS; boots++) {
                tried.turnOff();
                int start = tried.perform(BOOT, 0, 0, NONE);
                if (start >= RECOVERY) {
                    return what == 0 ? boots : start;
                }
            }
            return NO_SUCH;
        }

        int slackBits(int store) {
            tried.takeFrom(real);
            int counted = 0;
            for (int at = store * WORDS; at < (store + 1) * WORDS; at++) {
                for (int bit = 0; bit < WORD_BITS; bit++) {
                    tried.turnBit(at, bit);
                    counted += tried.reasonAgainst(store) == 0 ? 1 : 0;
                    tried.turnBit(at, bit);
                }
            }
            return counted;
        }

        int frailBits(int what) {
            if (what != 0 && what != 1) {
                return NONE;
            }
            int start = nextStart(false);
            int flags = real.flagsAsOne();
            int counted = 0;
            for (int at = PAGES; at < JOURNAL; at++) {
                for (int bit = 0; bit < 8; bit++) {
                    tried.takeFrom(real);
                    tried.turnOff();
                    tried.turnBit(at, bit);
                    boolean counts = what == 0
                        ? tried.perform(BOOT, 0, 0, NONE) != start
                        : tried.flagsAsOne() != flags;
                    counted += counts ? 1 : 0;
                }
            }
            return counted;
        }
    }

    /** Lives that are drawn. */
    private static final class Lives {
        private final Bundle bundle;
        private final Machine real;
        private final Machine tried;
        private final int[] slotStarts;
        private long x;
        private int deed;
        private int a;
        private int b;
        private int starts;
        private int recoveries;
        private int nothings;
        private int powerFailures;

        Lives(Bundle bundle, Machine real) {
            this.bundle = bundle;
            this.real = real;
            tried = new Machine(bundle);
            slotStarts = new int[VERSION_FUSES];
        }

        int answer(int n, int what, int seed) {
            if (what < 0 || what > 5) {
                return NONE;
            }
            x = seed;
            starts = 0;
            recoveries = 0;
            nothings = 0;
            powerFailures = 0;
            Arrays.fill(slotStarts, 0);
            tried.takeFrom(real);
            for (int turn = 0; turn < n; turn++) {
                drawDeed();
                if (deed != NONE) {
                    attempt();
                }
            }
            switch (what) {
                case 0:
                    return starts;
                case 1:
                    return recoveries;
                case 2:
                    return nothings;
                case 3:
                    return powerFailures;
                case 4:
                    return tried.cell(ROLLBACK);
                default:
                    return startsBelow(tried.cell(ROLLBACK));
            }
        }

        private int startsBelow(int rollback) {
            int counted = 0;
            for (int version = 0; version < rollback; version++) {
                counted += Rows.at(slotStarts, version);
            }
            return counted;
        }

        /** Draws what is to be done; OFF is done at once. */
        private void drawDeed() {
            a = 0;
            b = 0;
            if (!tried.isOn()) {
                deed = BOOT;
                a = draw(4) == 0 ? 1 : 0;
                return;
            }
            switch (draw(8)) {
                case 0:
                case 1:
                    deed = HEALTH;
                    break;
                case 2:
                case 3:
                    deed = INSTALL;
                    a = draw(2);
                    b = draw(bundle.images);
                    break;
                case 4:
                    deed = REFRESH;
                    b = draw(bundle.images);
                    break;
                case 5:
                    deed = NONE;
                    tried.turnOff();
                    break;
                case 6:
                    deed = MEND;
                    break;
                default:
                    deed = RESUME;
                    break;
            }
        }

        /** The cut is drawn in any case, so that what cannot be done leaves the draws behind it alike. */
        private void attempt() {
            int c = draw(20);
            if (!tried.isAble(deed, a, b)) {
                return;
            }
            int answer = tried.perform(deed, a, b, c == 19 ? NONE : 3 * c);
            if (answer == POWER_FAILED) {
                powerFailures++;
            } else if (deed == BOOT) {
                tally(answer);
            }
        }

        private void tally(int start) {
            if (start == NOTHING) {
                nothings++;
                return;
            }
            starts++;
            if (start == RECOVERY) {
                recoveries++;
            } else {
                int version = tried.version(start);
                Rows.put(slotStarts, version, Rows.at(slotStarts, version) + 1);
            }
        }

        private int draw(int k) {
            x = (x * 1103515245L + 12345L) % 2147483648L;
            return k > 0 ? (int) (x / 65536 % k) : 0;
        }
    }

    /**
     * The way to a version. A stand is one number: slots hold the words they hold now or those of an image,
     * recovery stays, and neither the journal nor the sequence counts.
     */
    private static final class Routes {
        private static final int MOST_STANDS = 300;
        private static final int PLACES = 1024;
        static final int GO_ON = 0;
        static final int FOUND = 1;
        static final int LOST = 2;
        private static final int OFF_MOVE = 0;
        private static final int BOOT_MOVE = 1;
        private static final int HEALTH_MOVE = 2;
        private static final int FIRST_INSTALL = 100;

        private final Bundle bundle;
        private final Machine real;
        private final Machine tried;
        private final long[] stands;
        private final int[] parents;
        private final int[] moves;
        private final int[] depths;
        private final int[] places;
        private final int[] alike;
        private int kept;
        private int length;
        private int lastParent;
        private int lastMove;

        Routes(Bundle bundle, Machine real) {
            this.bundle = bundle;
            this.real = real;
            tried = new Machine(bundle);
            stands = new long[MOST_STANDS];
            parents = new int[MOST_STANDS];
            moves = new int[MOST_STANDS];
            depths = new int[MOST_STANDS];
            places = new int[PLACES];
            alike = new int[2 * MOST_IMAGES];
        }

        /** Of the way that was found: how many moves, or one of them. */
        int moveOrLength(int k) {
            if (k == NONE) {
                return length;
            }
            return k < length ? moveAt(length - 1 - k) : NO_SUCH;
        }

        /** The move so many steps ahead of the last one. */
        private int moveAt(int back) {
            int move = lastMove;
            int stand = lastParent;
            for (int step = 0; step < back; step++) {
                move = Rows.at(moves, stand);
                stand = Rows.at(parents, stand);
            }
            return move;
        }

        private boolean isThere(int version) {
            int running = tried.cell(RUNNING);
            return isSlot(running) && tried.cell(TOLD) == 1 && tried.version(running) == version;
        }

        int search(int version) {
            tried.takeFrom(real);
            length = 0;
            if (isThere(version)) {
                return FOUND;
            }
            findAlike();
            Arrays.fill(places, 0);
            kept = 0;
            add(pack(0, 0), 0, 0);
            int outcome = GO_ON;
            for (int at = 0; at < kept && at < MOST_STANDS && outcome == GO_ON; at++) {
                for (int move = OFF_MOVE; move <= HEALTH_MOVE && outcome == GO_ON; move++) {
                    outcome = step(at, move, version);
                }
                for (int i = 0; i < 2 * bundle.images && outcome == GO_ON; i++) {
                    int slot = i < bundle.images ? 0 : 1;
                    outcome = step(at, FIRST_INSTALL + 10 * slot + i - slot * bundle.images, version);
                }
            }
            return outcome;
        }

        /** Two images, or an image and a slot now, may have the same words: then they make the same stands. */
        private void findAlike() {
            for (int slot = 0; slot < 2; slot++) {
                for (int image = 0; image < bundle.images; image++) {
                    Rows.put(alike, slot * MOST_IMAGES + image, firstAlike(slot, image));
                }
            }
        }

        private int firstAlike(int slot, int image) {
            if (real.holdsImage(slot, image)) {
                return 0;
            }
            tried.putImage(slot, image);
            for (int other = 0; other < image; other++) {
                if (tried.holdsImage(slot, other)) {
                    return other + 1;
                }
            }
            return image + 1;
        }

        private int step(int at, int move, int version) {
            long stand = at >= 0 && at < stands.length ? stands[at] : 0;
            int running = part(stand, 49, 3) - 1;
            int slot = move >= FIRST_INSTALL ? (move - FIRST_INSTALL) / 10 : NONE;
            if ((running == NONE) != (move == BOOT_MOVE) || slot == running && running != NONE) {
                return GO_ON;
            }
            unpack(stand);
            int contentA = part(stand, 0, 7);
            int contentB = part(stand, 3, 7);
            if (move == OFF_MOVE) {
                tried.turnOff();
            } else if (move == BOOT_MOVE) {
                tried.perform(BOOT, 0, 0, NONE);
            } else if (move == HEALTH_MOVE) {
                tried.perform(HEALTH, 0, 0, NONE);
            } else {
                int image = (move - FIRST_INSTALL) % 10;
                tried.perform(INSTALL, slot, image, NONE);
                contentA = slot == 0 ? Rows.at(alike, image) : contentA;
                contentB = slot == 1 ? Rows.at(alike, MOST_IMAGES + image) : contentB;
            }
            if (isThere(version)) {
                lastParent = at;
                lastMove = move;
                length = Rows.at(depths, at) + 1;
                return FOUND;
            }
            return add(pack(contentA, contentB), at, move);
        }

        private static int part(long stand, int shift, int mask) {
            return (int) (stand >> shift) & mask;
        }

        private long pack(int contentA, int contentB) {
            tried.readFlags();
            int running = tried.cell(RUNNING);
            long told = running == NONE ? 0 : tried.cell(TOLD);
            return contentA | contentB << 3 | tried.slotFlags(0) << 6 | tried.slotFlags(1) << 14
                | (long) tried.failures << 22 | (long) tried.last << 30 | (long) tried.cell(ROLLBACK) << 38
                | (long) tried.cell(KEY_FUSES) << 43 | (running + 1L) << 49 | told << 51;
        }

        private void unpack(long stand) {
            tried.takeFrom(real);
            for (int slot = 0; slot < 2; slot++) {
                int content = part(stand, 3 * slot, 7);
                if (content > 0) {
                    tried.putImage(slot, content - 1);
                }
            }
            tried.putFlags(part(stand, 6, 255), part(stand, 14, 255), part(stand, 22, 255), part(stand, 30, 255));
            tried.setCell(ROLLBACK, part(stand, 38, 31));
            tried.setCell(KEY_FUSES, part(stand, 43, 63));
            tried.setCell(RUNNING, part(stand, 49, 3) - 1);
            tried.setCell(TOLD, part(stand, 51, 1));
        }

        /** Keeps a stand that is new; LOST, if it would be one too many. */
        private int add(long stand, int parent, int move) {
            int place = (int) ((stand * 0x9E3779B97F4A7C15L) >>> 54);
            for (int probe = 0; probe < PLACES; probe++) {
                int held = Rows.at(places, place) - 1;
                if (held < 0 || held >= stands.length) {
                    break;
                }
                if (stands[held] == stand) {
                    return GO_ON;
                }
                place = (place + 1) & (PLACES - 1);
            }
            if (kept < 0 || kept >= stands.length) {
                return LOST;
            }
            stands[kept] = stand;
            Rows.put(parents, kept, parent);
            Rows.put(moves, kept, move);
            Rows.put(depths, kept, kept == 0 ? 0 : Rows.at(depths, parent) + 1);
            kept++;
            Rows.put(places, place, kept);
            return GO_ON;
        }
    }
}
