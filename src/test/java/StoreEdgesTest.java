/** The edges that the second Terms and promises 6, 16, 17 and 19 to 25 name: what the store keeps, write by write. */
public final class StoreEdgesTest extends Checks {
    private static final int[] CLEARED = {255, 255, 255, 255, 255, 255, 255, 255};

    public static void main(String[] args) {
        runAll(StoreEdgesTest.class);
    }

    // ---- the store at first

    static void storeAtFirst() {
        says(19, "At first all WORDS are 0, all bytes 255, no FUSE is blown, the machine is OFF.");
        TwinSlots x = new TwinSlots();
        for (int store = 0; store < 4; store++) {
            for (int k = 0; k < 14; k++) {
                due("word(" + store + ", " + k + ")", x.word(store, k), 0);
            }
            due("why(" + store + ")", x.why(store), 1);
        }
        for (int k = 0; k < 8; k++) {
            due("octet(0, " + k + ")", x.octet(0, k), 255);
            due("octet(1, " + k + ")", x.octet(1, k), 255);
        }
        for (int k = 0; k < 4; k++) {
            due("journal(" + k + ")", x.journal(k), 255);
        }
        due("rollback", x.count(4), 0);
        due("fuses of keys", x.count(5), 0);
        due("running", x.count(6), NONE);
        due("open", x.count(18), 0);
    }

    private static void noSuchWord(TwinSlots x, int store, int k) {
        due("word(" + store + ", " + k + ")", x.word(store, k), NONE);
    }

    static void wordsOfStores() {
        says(19, "NONE without these");
        TwinSlots x = new TwinSlots();
        x.flip(3, 13, 30);
        due("word(3, 13)", x.word(3, 13), 1 << 30);
        due("word(0, 0)", x.word(0, 0), 0);
        noSuchWord(x, 4, 0);
        noSuchWord(x, 4, 13);
        noSuchWord(x, -1, 0);
        noSuchWord(x, -1, 13);
        noSuchWord(x, 0, 14);
        noSuchWord(x, 3, 14);
        noSuchWord(x, 0, -1);
        noSuchWord(x, 3, -1);
        for (int n : FAR) {
            noSuchWord(x, n, 0);
            noSuchWord(x, 0, n);
            noSuchWord(x, n, n);
        }
    }

    static void octetsOfPages() {
        says(20, "A byte (0 to 255) of a PAGE; NONE without these.");
        TwinSlots x = new TwinSlots();
        for (int bit = 0; bit < 8; bit++) {
            x.blot(1, 7, bit);
        }
        due("octet(1, 7)", x.octet(1, 7), 0);
        due("octet(0, 0)", x.octet(0, 0), 255);
        due("octet(2, 0)", x.octet(2, 0), NONE);
        due("octet(-1, 0)", x.octet(-1, 0), NONE);
        due("octet(-1, 7)", x.octet(-1, 7), NONE);
        due("octet(0, 8)", x.octet(0, 8), NONE);
        due("octet(1, 8)", x.octet(1, 8), NONE);
        due("octet(0, -1)", x.octet(0, -1), NONE);
        due("octet(1, -1)", x.octet(1, -1), NONE);
        for (int n : FAR) {
            due("octet(" + n + ", 0)", x.octet(n, 0), NONE);
            due("octet(0, " + n + ")", x.octet(0, n), NONE);
        }
    }

    static void bytesOfTheJournal() {
        says(21, "A byte (0 to 255) of the JOURNAL; NONE without it.");
        TwinSlots x = new TwinSlots();
        due("journal(0)", x.journal(0), 255);
        due("journal(3)", x.journal(3), 255);
        due("journal(4)", x.journal(4), NONE);
        due("journal(-1)", x.journal(-1), NONE);
        for (int n : FAR) {
            due("journal(" + n + ")", x.journal(n), NONE);
        }
    }

    static void keysThatAreNot() {
        says(22, "Whether a KEY is REVOKED (1, 0); NONE without it.");
        TwinSlots x = told("key 1;key 2;key 3;key 4;key 5;key 6");
        due("revoked(5)", x.revoked(5), 0);
        due("revoked(6)", x.revoked(6), NONE);
        due("revoked(-1)", x.revoked(-1), NONE);
        for (int n : FAR) {
            due("revoked(" + n + ")", x.revoked(n), NONE);
        }
        tell(x, "key 1");
        due("revoked(0)", x.revoked(0), 0);
        due("revoked(1)", x.revoked(1), NONE);
    }

    static void pagesThatAreNot() {
        says(23, "Whether a PAGE is WHOLE (1, 0); NONE without it.");
        TwinSlots x = new TwinSlots();
        due("whole(0)", x.whole(0), 0);
        due("whole(1)", x.whole(1), 0);
        due("whole(2)", x.whole(2), NONE);
        due("whole(-1)", x.whole(-1), NONE);
        for (int n : FAR) {
            due("whole(" + n + ")", x.whole(n), NONE);
        }
    }

    static void flagsThatAreNot() {
        says(24, "NONE without these.");
        TwinSlots x = new TwinSlots();
        due("flag(1, 2)", x.flag(1, 2), 0);
        due("flag(2, 0)", x.flag(2, 0), NONE);
        due("flag(-1, 0)", x.flag(-1, 0), NONE);
        due("flag(0, 3)", x.flag(0, 3), NONE);
        due("flag(1, -1)", x.flag(1, -1), NONE);
        for (int n : FAR) {
            due("flag(" + n + ", 0)", x.flag(n, 0), NONE);
            due("flag(0, " + n + ")", x.flag(0, n), NONE);
        }
    }

    static void storesThatAreNot() {
        says(25, "WHY a STORE cannot start (0: it can); NONE without it.");
        TwinSlots x = new TwinSlots();
        due("why(3)", x.why(3), 1);
        due("why(4)", x.why(4), NONE);
        due("why(-1)", x.why(-1), NONE);
        for (int n : FAR) {
            due("why(" + n + ")", x.why(n), NONE);
        }
    }

    // ---- 6: factory

    static void factoryOfImagesThatAreNot() {
        says(6, "false, and nothing happens, if it is not OFF, or without such an IMAGE");
        TwinSlots x = told("key 1;key 2;image 1 1 parts 1;image 2 0 parts 1");
        long before = seen(x);
        due("factory(0), of key 1", x.factory(0), false);
        due("factory(2)", x.factory(2), false);
        due("factory(-1)", x.factory(-1), false);
        for (int n : FAR) {
            due("factory(" + n + ")", x.factory(n), false);
        }
        due("nothing happened", seen(x), before);
        due("factory(1)", x.factory(1), true);
        due("acts", x.count(11), 1);
        due("no start", x.started(0, 0), NONE);
        due("it is off", x.count(6), NONE);
    }

    static void factoryWhileSomethingRuns() {
        says(6, "false, and nothing happens, if it is not OFF");
        TwinSlots x = inRecovery();
        long before = seen(x);
        due("while recovery runs", x.factory(1), false);
        due("nothing happened", seen(x), before);
        x.off();
        due("when it is off", x.factory(1), true);
        due("word(2, 0)", x.word(2, 0), 5);
        due("word(3, 0)", x.word(3, 0), 5);
        TwinSlots y = inSlotA();
        before = seen(y);
        due("while a slot runs", y.factory(1), false);
        due("nothing happened", seen(y), before);
    }

    static void factoryPutsAllWords() {
        says(6, "both copies of RECOVERY have the WORDS of an IMAGE of KEY 0");
        TwinSlots x = told(THREE_KEYS);
        for (int k = 0; k < 14; k++) {
            x.flip(2, k, 30);
        }
        due("factory(1)", x.factory(1), true);
        for (int k = 0; k < 14; k++) {
            due("word(2, " + k + ")", x.word(2, k), x.image(1, k));
            due("word(3, " + k + ")", x.word(3, k), x.image(1, k));
            due("word(0, " + k + ")", x.word(A, k), 0);
            due("word(1, " + k + ")", x.word(B, k), 0);
        }
    }

    // ---- 16, 17: bits

    private static void noFlip(TwinSlots x, int store, int word, int bit) {
        due("flip(" + store + ", " + word + ", " + bit + ")", x.flip(store, word, bit), NONE);
    }

    static void flipsThatAreNot() {
        says(16, "FLIP of a bit (0 to 30) of a WORD of a STORE: the WORD then; NONE, and nothing happens, without these.");
        TwinSlots x = new TwinSlots();
        long before = seen(x);
        noFlip(x, 4, 0, 0);
        noFlip(x, -1, 13, 0);
        noFlip(x, 0, 14, 0);
        noFlip(x, 0, -1, 0);
        noFlip(x, 1, -1, 0);
        noFlip(x, 0, 0, 31);
        noFlip(x, 0, 0, 32);
        noFlip(x, 0, 0, -1);
        for (int n : FAR) {
            noFlip(x, n, 0, 0);
            noFlip(x, 0, n, 0);
            noFlip(x, 0, 0, n);
        }
        due("nothing happened", seen(x), before);
    }

    static void flipsOfEdges() {
        says(16, "FLIP of a bit (0 to 30) of a WORD of a STORE: the WORD then");
        TwinSlots x = new TwinSlots();
        due("flip(0, 0, 0)", x.flip(0, 0, 0), 1);
        due("flip(0, 0, 30)", x.flip(0, 0, 30), (1 << 30) + 1);
        due("flip(3, 13, 30)", x.flip(3, 13, 30), 1 << 30);
        due("flip(3, 13, 0)", x.flip(3, 13, 0), (1 << 30) + 1);
        due("flip(3, 13, 30)", x.flip(3, 13, 30), 1);
        due("word(0, 0)", x.word(0, 0), (1 << 30) + 1);
        due("the octet behind the last word", x.octet(0, 0), 255);
        due("acts", x.count(11), 5);
        for (int bit = 0; bit < 31; bit++) {
            due("all bits of a word", x.flip(2, 5, bit), (int) ((1L << (bit + 1)) - 1));
        }
    }

    private static void noBlot(TwinSlots x, int page, int place, int bit) {
        due("blot(" + page + ", " + place + ", " + bit + ")", x.blot(page, place, bit), NONE);
    }

    static void blotsThatAreNot() {
        says(17, "FLIP of a bit (0 to 7) of a byte of a PAGE: the byte then; NONE, and nothing happens, without these.");
        TwinSlots x = new TwinSlots();
        long before = seen(x);
        noBlot(x, 2, 0, 0);
        noBlot(x, -1, 7, 0);
        noBlot(x, 0, 8, 0);
        noBlot(x, 1, 8, 0);
        noBlot(x, 0, -1, 0);
        noBlot(x, 1, -1, 0);
        noBlot(x, 0, 0, 8);
        noBlot(x, 0, 0, -1);
        for (int n : FAR) {
            noBlot(x, n, 0, 0);
            noBlot(x, 0, n, 0);
            noBlot(x, 0, 0, n);
        }
        due("nothing happened", seen(x), before);
    }

    static void blotsOfEdges() {
        says(17, "FLIP of a bit (0 to 7) of a byte of a PAGE: the byte then");
        TwinSlots x = new TwinSlots();
        due("blot(0, 0, 0)", x.blot(0, 0, 0), 254);
        due("blot(0, 0, 7)", x.blot(0, 0, 7), 126);
        due("blot(1, 7, 7)", x.blot(1, 7, 7), 127);
        due("blot(1, 7, 0)", x.blot(1, 7, 0), 126);
        due("blot(1, 7, 7)", x.blot(1, 7, 7), 254);
        due("octet(0, 0)", x.octet(0, 0), 126);
        due("octet(0, 7)", x.octet(0, 7), 255);
        due("octet(1, 0)", x.octet(1, 0), 255);
        due("the journal behind the last page", x.journal(0), 255);
        due("acts", x.count(11), 5);
    }

    // ---- 22: keys that are revoked

    /** Slot A runs an image whose word 2 revokes these keys, and health is told: their fuses are blown. */
    private static TwinSlots withFuses(String text, int bits) {
        TwinSlots x = inSlotA(text);
        word(x, A, 2, bits);
        x.health(NONE);
        due("fuses of keys", x.count(5), bits);
        return x;
    }

    static void keyUnderSix() {
        says(22, "A KEY is REVOKED, if its FUSE is blown, or the KEY it is UNDER is REVOKED.");
        String images = ";image 0 0 parts 1;image 1 0 parts 1";
        String chain = "key 1;key 2 under 0;key 3 under 1;key 4 under 2;key 5 under 3;key 6 under 4";
        TwinSlots x = withFuses(chain + images, 1);
        for (int key = 0; key < 6; key++) {
            due("revoked(" + key + ")", x.revoked(key), 1);
        }
        TwinSlots y = withFuses(chain + images, 32);
        for (int key = 0; key < 6; key++) {
            due("revoked(" + key + ")", y.revoked(key), key == 5 ? 1 : 0);
        }
        TwinSlots z = withFuses(chain + images, 8);
        for (int key = 0; key < 6; key++) {
            due("revoked(" + key + ")", z.revoked(key), key >= 3 ? 1 : 0);
        }
        TwinSlots none = withFuses(chain + images, 0);
        for (int key = 0; key < 6; key++) {
            due("revoked(" + key + ")", none.revoked(key), 0);
        }
    }

    static void keyBesideIsNotRevoked() {
        says(22, "A KEY is REVOKED, if its FUSE is blown, or the KEY it is UNDER is REVOKED.");
        TwinSlots x = withFuses("key 1;key 2;key 3 under 0;key 4 under 1;image 0 0 parts 1;image 1 0 parts 1", 2);
        int[] revoked = {0, 1, 0, 1};
        for (int key = 0; key < 4; key++) {
            due("revoked(" + key + ")", x.revoked(key), revoked[key]);
        }
    }

    // ---- the journal: open or not

    static void journalIsOpen() {
        says(37, "It is OPEN, if byte 2 is 90, byte 3 as told, byte 0 is 0 or 1, and the IMAGE is there.");
        TwinSlots x = new TwinSlots();
        due("at first", x.count(18), 0);
        String text = "key 1" + ";image 0 0 parts 1".repeat(6);
        for (int slot = 0; slot < 2; slot++) {
            for (int image = 0; image < 6; image++) {
                TwinSlots y = inRecovery(text);
                due("cut ahead of byte 2", y.install(slot, image, 4), POWER_FAILED);
                due("open", y.count(18), 0);
                due("journal(2)", y.journal(2), 0);
                y.undo();
                due("cut behind byte 2", y.install(slot, image, 5), POWER_FAILED);
                due("open", y.count(18), 1);
                due("journal(0)", y.journal(0), slot);
                due("journal(1)", y.journal(1), image);
                due("journal(2)", y.journal(2), 90);
                due("journal(3)", y.journal(3), slot + image + 90);
                y.undo();
                due("cut ahead of the last write", y.install(slot, image, 38), POWER_FAILED);
                due("open", y.count(18), 1);
                y.undo();
                due("not cut", y.install(slot, image, 39), 39);
                due("open", y.count(18), 0);
            }
        }
    }

    static void journalOfAnImageThatIsNot() {
        says(37, "and the IMAGE is there");
        for (int image = 0; image < 6; image++) {
            TwinSlots x = inRecovery("key 1" + ";image 0 0 parts 1".repeat(6));
            x.install(A, image, 5);
            tell(x, "key 1" + ";image 0 0 parts 1".repeat(image));
            due("without image " + image, x.count(18), 0);
            tell(x, "key 1" + ";image 0 0 parts 1".repeat(image + 1));
            due("with image " + image, x.count(18), 1);
        }
    }

    // ---- flags and pages

    static void flagsOfEachByte() {
        says(24, "16 * PRIORITY + 2 * TRIES + (GOOD 1, not 0)");
        for (int b = 0; b < 256; b++) {
            TwinSlots x = new TwinSlots();
            page(x, 0, 0, b, 255 - b, 0, 0);
            flags(x, A, b / 16, b / 2 % 8, b % 2);
            flags(x, B, 15 - b / 16, 7 - b / 2 % 8, 1 - b % 2);
        }
    }

    static void pageWithoutItsMark() {
        says(23, "It is WHOLE, if byte 0 is 165 and bytes 6, 7 are as told.");
        TwinSlots x = new TwinSlots();
        bytes(x, 0, 165, 0, 0, 0, 0, 0, 0, 165);
        due("165", x.whole(0), 1);
        for (int mark : new int[] {0, 1, 164, 166, 255}) {
            bytes(x, 0, mark, 0, 0, 0, 0, 0, 0, mark);
            due("byte 0 is " + mark, x.whole(0), 0);
        }
    }

    static void checkOfAPage() {
        says(23, "by 256 and the rest of CHECK: of bytes 0 to 5 each times its number and 1");
        TwinSlots x = new TwinSlots();
        // 165 + 2 * 45 is 255, and 2 * 3 more, less 5, is 256: the rest goes round.
        bytes(x, 0, 165, 45, 0, 0, 0, 0, 0, 255);
        due("255", x.whole(0), 1);
        bytes(x, 0, 165, 44, 1, 0, 0, 0, 1, 0);
        due("256", x.whole(0), 1);
        bytes(x, 0, 165, 44, 1, 0, 0, 0, 0, 0);
        due("0 for 256", x.whole(0), 0);
        bytes(x, 0, 165, 45, 0, 0, 0, 0, 1, 255);
        due("511 for 255", x.whole(0), 0);
        bytes(x, 0, 165, 45, 0, 0, 0, 0, 0, 254);
        due("254 for 255", x.whole(0), 0);
        int most = 165 + 255 * (2 + 3 + 4 + 5 + 6);
        bytes(x, 0, 165, 255, 255, 255, 255, 255, most / 256, most % 256);
        due("the greatest", x.whole(0), 1);
        int[] times = {1, 2, 3, 4, 5, 6};
        for (int k = 1; k < 6; k++) {
            int[] page = {165, 0, 0, 0, 0, 0, 0, 165 + times[k]};
            page[k] = 1;
            bytes(x, 1, page);
            due("byte " + k + " times " + times[k], x.whole(1), 1);
        }
    }

    private static void newest(int sequenceOf0, int sequenceOf1, int due) {
        TwinSlots x = new TwinSlots();
        page(x, 0, sequenceOf0, slotByte(1, 1, 1), 0, 11, 0);
        page(x, 1, sequenceOf1, slotByte(2, 2, 0), 0, 22, 1);
        String what = "of " + sequenceOf0 + " and " + sequenceOf1;
        due("count(9) " + what, x.count(9), due);
        due("count(10) " + what, x.count(10), due == 0 ? sequenceOf0 : sequenceOf1);
        due("failures " + what, x.count(7), due == 0 ? 11 : 22);
        due("last " + what, x.count(8), due);
        flags(x, A, due + 1, due + 1, 1 - due);
    }

    static void newestOfTwo() {
        says(37, "of two WHOLE ones page 1, if its SEQUENCE is that of page 0 and 1 (255 and 1 is 0), else page 0");
        newest(0, 1, 1);
        newest(1, 0, 0);
        newest(0, 0, 0);
        newest(0, 2, 0);
        newest(2, 0, 0);
        newest(254, 255, 1);
        newest(255, 254, 0);
        newest(255, 0, 1);
        newest(0, 255, 0);
        newest(255, 1, 0);
        newest(255, 255, 0);
        newest(127, 128, 1);
        newest(128, 0, 0);
        newest(0, 128, 0);
    }

    static void newestOfOne() {
        says(37, "The NEWEST PAGE: the WHOLE one");
        TwinSlots x = new TwinSlots();
        page(x, 1, 200, slotByte(3, 0, 1), 0, 5, 2);
        due("page 1 alone", x.count(9), 1);
        due("its sequence", x.count(10), 200);
        page(x, 0, 200, slotByte(4, 0, 1), 0, 6, 2);
        due("both", x.count(9), 0);
        x.blot(1, 0, 0);
        due("page 0 alone", x.count(9), 0);
        flags(x, A, 4, 0, 1);
        x.blot(1, 0, 0);
        x.blot(0, 7, 7);
        due("page 1 alone", x.count(9), 1);
        flags(x, A, 3, 0, 1);
    }

    static void flagsWithoutAPage() {
        says(37, "without a WHOLE one all are 0, none is GOOD, LAST is 3");
        TwinSlots x = inSlotA();
        x.health(NONE);
        x.blot(0, 0, 0);
        x.blot(1, 0, 0);
        due("newest", x.count(9), NONE);
        due("sequence", x.count(10), NONE);
        due("failures", x.count(7), 0);
        due("last", x.count(8), 3);
        flags(x, A, 0, 0, 0);
        flags(x, B, 0, 0, 0);
    }

    static void failuresAndLastOfAPage() {
        says(37, "FAILURES (0 to 255); LAST (0 A, 1 B, 2 RECOVERY, 3 nothing)");
        TwinSlots x = new TwinSlots();
        for (int failures : new int[] {0, 1, 127, 128, 254, 255}) {
            for (int last = 0; last < 4; last++) {
                page(x, 0, 0, 0, 0, failures, last);
                due("failures", x.count(7), failures);
                due("last", x.count(8), last);
            }
        }
    }

    // ---- flags are written

    /** The bytes of a page behind so many of the nine writes. */
    private static int[] written(int[] before, int[] due, int writes) {
        int[] page = (writes == 0 ? before : CLEARED).clone();
        for (int k = 0; k < writes - 1; k++) {
            page[k] = due[k];
        }
        return page;
    }

    private static int[] pageOf(TwinSlots x, int page) {
        int[] bytes = new int[8];
        for (int k = 0; k < 8; k++) {
            bytes[k] = x.octet(page, k);
        }
        return bytes;
    }

    private static void duePage(String what, TwinSlots x, int page, int[] due) {
        for (int k = 0; k < 8; k++) {
            due(what + ", octet(" + page + ", " + k + ")", x.octet(page, k), due[k]);
        }
    }

    static void flagsWrittenByteByByte() {
        says(11, "the PAGE that is not the NEWEST (page 0, if none is WHOLE) is cleared, then gets bytes 0 to 7, one by one");
        TwinSlots x = inSlotA();
        int newest = x.count(9);
        int[] kept = pageOf(x, newest);
        int[] before = pageOf(x, 1 - newest);
        due("prefer", x.prefer(B, NONE), 14);
        int[] after = pageOf(x, 1 - newest);
        due("sequence", after[1], kept[1] + 1);
        x.undo();
        for (int cut = 0; cut < 9; cut++) {
            due("cut at " + cut, x.prefer(B, cut), POWER_FAILED);
            duePage("cut at " + cut, x, newest, kept);
            duePage("cut at " + cut, x, 1 - newest, written(before, after, cut));
            due("writes", x.count(14), cut);
            due("the newest", x.count(9), newest);
            due("it is off", x.count(6), NONE);
            x.undo();
        }
        due("cut at 9", x.prefer(B, 9), 14);
        due("the newest", x.count(9), 1 - newest);
        due("it runs", x.count(6), A);
    }

    static void flagsWrittenWithoutAPage() {
        says(11, "(page 0, if none is WHOLE)");
        TwinSlots x = inSlotA();
        bytes(x, 0, 0, 1, 2, 3, 4, 5, 6, 7);
        bytes(x, 1, 7, 6, 5, 4, 3, 2, 1, 0);
        due("none is whole", x.count(9), NONE);
        due("prefer", x.prefer(A, NONE), 0);
        due("the newest", x.count(9), 0);
        due("sequence 0 without one", x.count(10), 0);
        duePage("the other one stays", x, 1, new int[] {7, 6, 5, 4, 3, 2, 1, 0});
        flags(x, A, 15, 0, 0);
        due("last", x.count(8), 3);
    }

    static void flagsWrittenBesideEachPage() {
        says(11, "the PAGE that is not the NEWEST");
        for (int page = 0; page < 2; page++) {
            TwinSlots x = inSlotA();
            bytes(x, 1 - page, 0, 0, 0, 0, 0, 0, 0, 0);
            page(x, page, 40, slotByte(9, 2, 0), 0, 1, 0);
            int[] kept = pageOf(x, page);
            due("prefer", x.prefer(B, NONE), 9);
            duePage("the newest one stays", x, page, kept);
            due("the newest", x.count(9), 1 - page);
            due("sequence", x.count(10), 41);
        }
    }

    static void sequenceGoesRound() {
        says(11, "SEQUENCE is that of the NEWEST and 1 (255 and 1 is 0; 0 without one)");
        for (int page = 0; page < 2; page++) {
            TwinSlots x = inSlotA();
            bytes(x, 1 - page, 0, 0, 0, 0, 0, 0, 0, 0);
            page(x, page, 254, slotByte(9, 2, 0), 0, 1, 0);
            int[] sequences = {255, 0, 1};
            for (int n = 0; n < 3; n++) {
                due("prefer", x.prefer(n % 2, NONE) >= 0, true);
                due("sequence", x.count(10), sequences[n]);
                due("the newest", x.count(9), (page + n + 1) % 2);
                due("both are whole", x.whole(0) + x.whole(1), 2);
                flags(x, n % 2, 15, n % 2 == 0 ? 2 : 0, 0);
            }
        }
    }

    // ---- an image is laid

    static void laidWordByWord() {
        says(10, "WORD 0 becomes 0, then WORDS 13, 12, .. 1 are WRITTEN, then WORD 0 (15 WRITES)");
        for (int cut = 0; cut < 15; cut++) {
            TwinSlots x = inRecovery();
            for (int k = 0; k < 14; k++) {
                word(x, 3, k, 100 + k);
            }
            due("refresh cut at " + cut, x.refresh(1, cut), POWER_FAILED);
            for (int k = 1; k < 14; k++) {
                boolean laid = cut >= 15 - k;
                due("cut at " + cut + ", word(3, " + k + ")", x.word(3, k), laid ? x.image(1, k) : 100 + k);
            }
            due("cut at " + cut + ", word(3, 0)", x.word(3, 0), cut == 0 ? 100 : 0);
            due("why", x.why(3), 1);
            due("writes", x.count(14), cut);
        }
        TwinSlots y = inRecovery();
        due("cut at 15", y.refresh(1, 15), 3);
        due("why", y.why(3), 0);
        due("writes", y.count(14), 15);
    }

    // ---- 25: why a store cannot start

    private static TwinSlots withWords(int image) {
        TwinSlots x = told(THREE_KEYS);
        lay(x, A, image);
        lay(x, 2, image);
        due("slot A can start", x.why(A), 0);
        return x;
    }

    private static void why(TwinSlots x, int k, int word, int due) {
        int before = x.word(A, k);
        word(x, A, k, word);
        due("why(0) with word " + k + " " + word, x.why(A), due);
        word(x, A, k, before);
        due("why(0) as it was", x.why(A), 0);
    }

    static void versionOfAStore() {
        says(25, "1 WORD 0 is not 1 to 31");
        TwinSlots x = withWords(1);
        why(x, 0, 0, 1);
        why(x, 0, 1, 2);
        why(x, 0, 31, 2);
        why(x, 0, 32, 1);
        why(x, 0, 33, 1);
        why(x, 0, 5 + (1 << 30), 1);
        why(x, 0, Integer.MAX_VALUE, 1);
        TwinSlots y = told("key 1;image 0 0 parts 1;image 30 0 parts 1");
        lay(y, A, 0);
        lay(y, B, 1);
        due("version 0", y.why(A), 0);
        due("version 30", y.why(B), 0);
    }

    static void keyOfAStore() {
        says(25, "WORD 1 is no KEY");
        TwinSlots x = withWords(1);
        why(x, 1, 1, 2);
        why(x, 1, 2, 2);
        why(x, 1, 3, 1);
        why(x, 1, 1 << 30, 1);
        why(x, 1, Integer.MAX_VALUE, 1);
        tell(x, "watch 1");
        due("without keys", x.why(A), 1);
    }

    static void partsOfAStore() {
        says(25, "or WORD 3 not 1 to 4");
        TwinSlots x = withWords(2);
        why(x, 3, 0, 1);
        why(x, 3, 2, 2);
        why(x, 3, 4, 2);
        why(x, 3, 5, 1);
        why(x, 3, 1 + (1 << 30), 1);
        why(x, 3, Integer.MAX_VALUE, 1);
    }

    /** Puts that sign into the store that its words 0 to 4 have by a secret. */
    private static void sign(TwinSlots x, int store, int secret) {
        long h = secret + 7;
        for (int k = 0; k < 5; k++) {
            h = (h * 31 + x.word(store, k)) % 65536;
        }
        word(x, store, 5, (int) h);
    }

    static void partsThatAreSigned() {
        says(25, "or WORD 3 not 1 to 4");
        // Five parts that are signed are refused for their number yet; four of which two are told are not sound.
        TwinSlots x = withWords(1);
        int[] dues = {1, 5, 5, 5, 0, 1, 1};
        for (int parts = 0; parts < 7; parts++) {
            word(x, A, 3, parts);
            sign(x, A, 1);
            due("signed with " + parts + " parts", x.why(A), dues[parts]);
        }
    }

    static void versionThatIsSigned() {
        says(25, "1 WORD 0 is not 1 to 31");
        TwinSlots x = withWords(1);
        int[] words = {0, 1, 31, 32, 64};
        int[] dues = {1, 0, 0, 1, 1};
        for (int n = 0; n < words.length; n++) {
            word(x, A, 0, words[n]);
            sign(x, A, 1);
            due("signed with word 0 " + words[n], x.why(A), dues[n]);
        }
    }

    static void signOfAStore() {
        says(25, "else 2 SIGN is not that of its WORDS 0 to 4");
        TwinSlots x = withWords(1);
        int sign = x.word(A, 5);
        why(x, 5, sign ^ 1, 2);
        why(x, 5, sign + 65536, 2);
        why(x, 5, sign + (1 << 30), 2);
        why(x, 5, 0, 2);
        why(x, 2, 1, 2);
        why(x, 4, x.word(A, 4) ^ 1, 2);
        // 65536 more of a word that is signed leaves the sign as it is.
        why(x, 2, 65536, 0);
        why(x, 2, 1 << 30, 0);
        tell(x, THREE_KEYS.replace("key 1;", "key 2;"));
        due("by another secret", x.why(A), 2);
    }

    static void wordFourBeyondADigest() {
        says(25, "a PART has not the DIGEST that is told ahead of it (the first one's by WORD 4");
        TwinSlots x = withWords(1);
        why(x, 4, x.word(A, 4) + 65536, 5);
        why(x, 4, x.word(A, 4) + (1 << 30), 5);
    }

    static void digestsOfAStore() {
        says(25, "that told behind the last one is 0");
        for (int image = 1; image <= 2; image++) {
            TwinSlots x = withWords(image);
            int parts = x.word(A, 3);
            for (int part = 0; part < parts; part++) {
                int k = 6 + 2 * part;
                why(x, k, x.word(A, k) ^ 1, 5);
                why(x, k, x.word(A, k) + 65536, 0);
                why(x, k, x.word(A, k) + (1 << 30), 0);
                why(x, k + 1, x.word(A, k + 1) ^ 1, 5);
                why(x, k + 1, x.word(A, k + 1) + 65536, 5);
                why(x, k + 1, x.word(A, k + 1) + (1 << 30), 5);
            }
            for (int k = 6 + 2 * parts; k < 14; k++) {
                why(x, k, 1, 0);
            }
        }
    }

    static void revokedKeyOfAStore() {
        says(25, "else, of A and B, 3 its KEY is REVOKED, else 4 its VERSION is below ROLLBACK");
        TwinSlots x = told("key 1;key 2;key 3 under 1;image 3 0 parts 1;image 5 0 parts 1;image 4 1 parts 2;"
            + "image 9 2 parts 3;image 4 0 parts 4;image 5 0 parts 5");
        x.factory(0);
        x.boot(false, NONE);
        x.install(A, 1, NONE);
        x.off();
        x.boot(false, NONE);
        int[] dues = {0, 0, 0, 0, 0, 0};
        for (int image = 0; image < 6; image++) {
            lay(x, B, image);
            due("ahead of health, image " + image, x.why(B), dues[image]);
        }
        word(x, A, 2, 2);
        due("health", x.health(NONE), 5);
        int[] then = {4, 0, 3, 3, 4, 0};
        for (int image = 0; image < 6; image++) {
            lay(x, B, image);
            due("behind health, image " + image, x.why(B), then[image]);
            word(x, B, 6, 99);
            due("with another part", x.why(B), then[image] == 0 ? 5 : then[image]);
            word(x, B, 5, x.word(B, 5) ^ 1);
            due("with another sign", x.why(B), 2);
        }
    }

    static void rollbackOfEachVersion() {
        says(25, "else 4 its VERSION is below ROLLBACK");
        for (int version = 0; version < 31; version++) {
            TwinSlots x = inRecovery("key 1;image 0 0 parts 1;image " + version + " 0 parts 1;image "
                + Math.max(0, version - 1) + " 0 parts 1");
            x.install(A, 1, NONE);
            x.off();
            x.boot(false, NONE);
            due("rollback", x.health(NONE), version);
            lay(x, B, 1);
            due("at rollback", x.why(B), 0);
            lay(x, B, 2);
            due("one below it", x.why(B), version == 0 ? 0 : 4);
        }
    }

    static void rollbackOf31() {
        says(25, "else 4 its VERSION is below ROLLBACK");
        TwinSlots x = inSlotA("key 1;image 0 0 parts 1;image 30 0 parts 1");
        word(x, A, 0, 32);
        due("health", x.health(NONE), 31);
        word(x, A, 0, 31);
        due("version 30 is below 31", x.why(A), 4);
        due("recovery is not asked for it", x.why(2), 0);
        due("no slot can start", x.least(1), -2);
        x.off();
        due("recovery starts", x.boot(false, NONE), RECOVERY);
    }

    static void recoveryIsAskedForKeyZeroAlone() {
        says(25, "of RECOVERY 3, if its KEY is not 0");
        TwinSlots x = withWords(2);
        due("the slot can start", x.why(A), 0);
        due("the copy of recovery", x.why(2), 3);
        word(x, 2, 6, 99);
        due("3 ahead of 5", x.why(2), 3);
        word(x, 2, 5, x.word(2, 5) ^ 1);
        due("2 ahead of 3", x.why(2), 2);
        // Key 0 is revoked, and rollback is above version 0: recovery starts nevertheless, a slot does not.
        TwinSlots y = withFuses(THREE_KEYS, 1);
        lay(y, B, 0);
        due("key 0 is revoked", y.revoked(0), 1);
        due("the slot", y.why(B), 3);
        due("copy 2", y.why(2), 0);
        due("copy 3", y.why(3), 0);
        y.off();
        due("it starts", y.boot(false, NONE), RECOVERY);
    }

    static void leastReasonFirst() {
        says(25, "1 WORD 0 is not 1 to 31");
        TwinSlots x = withFuses(THREE_KEYS, 2);
        lay(x, B, 2);
        due("key 1 is revoked", x.why(B), 3);
        word(x, B, 6, 99);
        due("3 ahead of 5", x.why(B), 3);
        word(x, B, 5, 0);
        due("2 ahead of 3", x.why(B), 2);
        word(x, B, 0, 0);
        due("1 ahead of 2", x.why(B), 1);
    }
}
