/** The edges that the fourth Terms and promises 26 to 37 name: what is asked, tried out by the calls themselves. */
public final class AskedEdgesTest extends Checks {
    private static final int BITS_OF_A_WORD = 31;
    private static final String ONE_IMAGE = "key 1;key 2;image 0 0 revokes 1 parts 1;limit 1;tries 1";

    public static void main(String[] args) {
        runAll(AskedEdgesTest.class);
    }

    private static long flagsOf(TwinSlots x) {
        long flags = x.count(7) * 256L + x.count(8);
        for (int n = 0; n < 6; n++) {
            flags = flags * 16 + x.flag(n / 3, n % 3);
        }
        return flags;
    }

    /** A runs and is good, an install into B was cut, a bit of copy 3 is turned, one page is not whole. */
    private static TwinSlots manyWays() {
        TwinSlots x = inSlotA(THREE_KEYS + ";tries 1");
        x.health(NONE);
        x.install(B, 2, NONE);
        x.install(B, 2, 20);
        x.boot(false, NONE);
        x.flip(3, 6, 0);
        x.blot(1 - x.count(9), 0, 0);
        return x;
    }

    // ---- by what is asked nothing changes

    static void nothingChanges() {
        says(26, "(By what is asked nothing changes.)");
        for (TwinSlots x : new TwinSlots[] {new TwinSlots(), inRecovery(), inSlotA(), manyWays()}) {
            long before = seen(x);
            for (int n = -1; n < 8; n++) {
                x.next(n % 2 == 0);
                x.slack(n);
                x.why(n);
                x.lasts(n);
                x.frail(n);
                x.least(n);
                x.life(60, n);
                x.route(n, NONE);
                x.route(n, 0);
                x.image(n, n);
                x.revoked(n);
                for (int k = 0; k < 7; k++) {
                    x.cuts(k, n % 2, k == 2 || k == 3 ? n : 0, n);
                    x.twice(k, n % 2, k == 2 || k == 3 ? n : 0);
                }
            }
            due("nothing changed", seen(x), before);
        }
    }

    // ---- 26: next

    static void nextOfEachStart() {
        says(26, "What a BOOT would START, were the machine OFF: 0 A, 1 B, 2 RECOVERY, 3 nothing.");
        due("of an empty store", new TwinSlots().next(false), NOTHING);
        due("with the button", new TwinSlots().next(true), NOTHING);
        TwinSlots x = inSlotA();
        due("A, while it runs", x.next(false), A);
        due("with the button", x.next(true), RECOVERY);
        x.install(B, 2, NONE);
        due("B", x.next(false), B);
        due("A runs yet", x.count(6), A);
        x.off();
        due("when it is off", x.next(false), B);
        x.flip(2, 5, 0);
        x.flip(3, 5, 0);
        due("with the button", x.next(true), NOTHING);
        due("without", x.next(false), B);
    }

    // ---- 27: cuts

    /** Tries each cut by the calls themselves. */
    private static void cuts(TwinSlots x, int deed, int a, int b, int writes) {
        String what = "cuts(" + deed + ", " + a + ", " + b + ", ";
        int[] due = new int[7];
        due[0] = writes;
        long ahead = flagsOf(x);
        due("cut at as many", perform(x, deed, a, b, writes) >= 0, true);
        due("writes", x.count(14), writes);
        long behind = flagsOf(x);
        x.undo();
        for (int cut = 0; cut < writes; cut++) {
            due("cut at " + cut, perform(x, deed, a, b, cut), POWER_FAILED);
            due[5] += flagsOf(x) == ahead ? 1 : 0;
            due[6] += flagsOf(x) == behind ? 1 : 0;
            due[1 + x.boot(false, NONE)]++;
            x.undo();
            x.undo();
        }
        for (int n = 0; n < 7; n++) {
            due(what + n + ")", x.cuts(deed, a, b, n), due[n]);
        }
        due("all starts together", due[1] + due[2] + due[3] + due[4], writes);
    }

    static void cutsOfEachDeed() {
        says(27, "of CUTS 0 to w - 1 by what a BOOT without the button, behind it, STARTS; behind how many FLAGS are as ahead");
        TwinSlots x = manyWays();
        due("A runs", x.count(6), A);
        cuts(x, 1, 0, 0, 9);
        cuts(x, 2, B, 4, 39);
        cuts(x, 3, 0, 1, 15);
        cuts(x, 4, A, 0, 9);
        cuts(x, 4, B, 0, 9);
        cuts(x, 5, 0, 0, 24);
        cuts(x, 6, 0, 0, 34);
        x.off();
        cuts(x, 0, 0, 0, 9);
        cuts(x, 0, 1, 0, 9);
        TwinSlots y = inSlotA();
        cuts(y, 1, 0, 0, 13);
        y.off();
        y.flip(A, 6, 0);
        cuts(y, 0, 0, 0, 18);
        y.flip(2, 6, 0);
        y.flip(3, 6, 0);
        cuts(y, 0, 0, 0, 9);
    }

    static void cutsOfNoWrites() {
        says(27, "CUTS of a DEED (0 BOOT, 1 HEALTH, 2 INSTALL, 3 REFRESH, 4 PREFER, 5 MEND, 6 RESUME), if it can be done now");
        TwinSlots x = new TwinSlots();
        TwinSlots y = inRecovery();
        y.mend(NONE);
        for (int what = 0; what < 7; what++) {
            due("of a boot of nothing", x.cuts(0, 0, 0, what), 0);
            due("with the button", x.cuts(0, 1, 0, what), 0);
            due("of a mend of nothing", y.cuts(5, 0, 0, what), 0);
        }
    }

    private static void noCuts(TwinSlots x, int deed, int a, int b, int what) {
        due("cuts(" + deed + ", " + a + ", " + b + ", " + what + ")", x.cuts(deed, a, b, what), NONE);
    }

    private static void noDeed(TwinSlots x, int deed, int a, int b) {
        noCuts(x, deed, a, b, 0);
        noCuts(x, deed, a, b, 6);
        due("twice(" + deed + ", " + a + ", " + b + ")", x.twice(deed, a, b), NONE);
    }

    static void cutsOfDeedsThatAreNot() {
        says(27, "NONE without these, or if the DEED cannot be done now.");
        TwinSlots x = manyWays();
        noDeed(x, -1, 0, 0);
        noDeed(x, 7, 0, 0);
        for (int n : FAR) {
            noDeed(x, n, 0, 0);
            for (int deed = 1; deed < 7; deed++) {
                noDeed(x, deed, n, deed == 2 ? 1 : 0);
                noDeed(x, deed, deed == 2 ? B : 0, n);
                noCuts(x, deed, deed == 2 ? B : 0, 0, n);
            }
        }
        for (int deed = 1; deed < 7; deed++) {
            int a = deed == 2 ? B : 0;
            due("it can be", x.cuts(deed, a, 0, 0) > 0, true);
            noCuts(x, deed, a, 0, -1);
            noCuts(x, deed, a, 0, 7);
        }
    }

    static void numbersOfEachDeed() {
        says(27, "(a: of BOOT 1 with the button, else 0, of INSTALL, PREFER the slot; b: of INSTALL, REFRESH the IMAGE; other a, b are 0)");
        TwinSlots x = manyWays();
        for (int other : new int[] {-1, 1}) {
            noDeed(x, 1, other, 0);
            noDeed(x, 1, 0, other);
            noDeed(x, 3, other, 0);
            noDeed(x, 4, A, other);
            noDeed(x, 5, other, 0);
            noDeed(x, 5, 0, other);
            noDeed(x, 6, other, 0);
            noDeed(x, 6, 0, other);
        }
        noDeed(x, 2, A, 1);
        noDeed(x, 2, -1, 1);
        noDeed(x, 2, 2, 1);
        noDeed(x, 2, B, -1);
        noDeed(x, 2, B, 6);
        due("the last image", x.cuts(2, B, 5, 0), 39);
        noDeed(x, 3, 0, -1);
        noDeed(x, 3, 0, 2);
        noDeed(x, 3, 0, 6);
        due("the last image", x.cuts(3, 0, 5, 0), 15);
        noDeed(x, 4, -1, 0);
        noDeed(x, 4, 2, 0);
        x.off();
        noDeed(x, 0, -1, 0);
        noDeed(x, 0, 2, 0);
        noDeed(x, 0, 0, 1);
        noDeed(x, 0, 1, 1);
        noDeed(x, 0, 0, -1);
        due("with the button", x.cuts(0, 1, 0, 0), 9);
    }

    static void deedsThatCannotBe() {
        says(27, "or if the DEED cannot be done now");
        TwinSlots x = manyWays();
        noDeed(x, 0, 0, 0);
        noDeed(x, 0, 1, 0);
        x.off();
        for (int deed = 1; deed < 7; deed++) {
            noDeed(x, deed, 0, 0);
        }
        TwinSlots y = inRecovery();
        noDeed(y, 6, 0, 0);
        due("each slot", y.cuts(2, A, 0, 0) + y.cuts(2, B, 0, 0), 78);
    }

    static void checkThatStandsBeforeItsLastByte() {
        says(27, "behind how many FLAGS are as ahead of the DEED, as behind all of it (all but SEQUENCE)");
        TwinSlots x = inRecovery();
        // 165 + 2 * 5 + 3 * 240 is 895: the rest by 256 is 127; 2 * 64 more makes it 255, which a cleared byte is.
        bytes(x, 0, 0, 0, 0, 0, 0, 0, 0, 0);
        page(x, 1, 68, slotByte(0, 0, 0), 0, 0, 0);
        due("cut ahead of byte 7", x.prefer(A, 8), POWER_FAILED);
        due("it is whole", x.whole(0), 1);
        x.undo();
        cuts(x, 4, A, 0, 9);
        due("as ahead", x.cuts(4, A, 0, 5), 8);
        due("as behind", x.cuts(4, A, 0, 6), 1);
    }

    static void flagsThatStay() {
        says(27, "as behind all of it (all but SEQUENCE)");
        TwinSlots x = inSlotA();
        x.health(NONE);
        due("as ahead", x.cuts(1, 0, 0, 5), 9);
        due("as behind", x.cuts(1, 0, 0, 6), 9);
        due("a refresh writes no flags", x.cuts(3, 0, 0, 5), 15);
        due("as behind", x.cuts(3, 0, 0, 6), 15);
    }

    // ---- 28: twice

    private static int twos(TwinSlots x, int deed, int a, int b) {
        int writes = x.cuts(deed, a, b, 0);
        int dead = 0;
        for (int n = 0; n < writes; n++) {
            perform(x, deed, a, b, n);
            int more = x.cuts(0, 0, 0, 0);
            for (int m = 0; m < more; m++) {
                due("a second cut", x.boot(false, m), POWER_FAILED);
                dead += x.next(false) == NOTHING ? 1 : 0;
                x.undo();
            }
            x.undo();
        }
        return dead;
    }

    private static void twice(TwinSlots x, int deed, int a, int b, int least) {
        int dead = twos(x, deed, a, b);
        due("twice(" + deed + ", " + a + ", " + b + ")", x.twice(deed, a, b), dead);
        due("twos are " + dead, dead >= least, true);
    }

    static void twosOfEachDeed() {
        says(28, "TWICE: of CUTS n of the DEED, and CUTS m of the BOOT without the button behind it (0 to one less than its WRITES)");
        TwinSlots x = manyWays();
        twice(x, 2, B, 4, 0);
        // Without recovery what starts nothing is what has no try left.
        x.flip(2, 6, 0);
        x.flip(A, 6, 0);
        twice(x, 1, 0, 0, 1);
        twice(x, 2, B, 4, 1);
        twice(x, 3, 0, 1, 1);
        twice(x, 4, A, 0, 1);
        twice(x, 5, 0, 0, 1);
        twice(x, 6, 0, 0, 1);
        x.off();
        twice(x, 0, 0, 0, 0);
        twice(x, 0, 1, 0, 0);
    }

    static void twosOfABootWithoutWrites() {
        says(28, "(0 to one less than its WRITES)");
        TwinSlots x = inRecovery();
        x.flip(2, 6, 0);
        x.flip(3, 6, 0);
        due("a boot behind it writes nothing", x.twice(4, A, 0), 0);
        due("nor behind a refresh that is not whole", x.twice(3, 0, 0), 0);
        due("an empty store", new TwinSlots().twice(0, 0, 0), 0);
    }

    static void secondCutBehindATry() {
        says(28, "how many twos behind which a BOOT STARTS nothing");
        TwinSlots x = inSlotA();
        x.off();
        x.flip(2, 6, 0);
        x.flip(3, 6, 0);
        bytes(x, 0, 0, 0, 0, 0, 0, 0, 0, 0);
        // A boot of A writes CHECK 1023, of which the rest, 255, stands in a cleared page: it is whole a write before.
        page(x, 1, 63, slotByte(15, 1, 0), 0, 1, A);
        due("cut ahead of the last write", x.boot(false, 8), POWER_FAILED);
        due("it is whole", x.whole(0), 1);
        x.undo();
        twice(x, 0, 0, 0, 8);
        page(x, 1, 64, slotByte(15, 1, 0), 0, 1, A);
        due("cut ahead of the last write", x.boot(false, 8), POWER_FAILED);
        due("another check", x.whole(0), 0);
        x.undo();
        twice(x, 0, 0, 0, 0);
        due("no try is lost", x.twice(0, 0, 0), 0);
    }

    // ---- 29: lasts

    private static void lasts(String text, int a, int b, boolean recovery, int boots) {
        TwinSlots x = told(THREE_KEYS + text);
        x.factory(0);
        lay(x, A, 1);
        lay(x, B, 2);
        if (!recovery) {
            x.flip(2, 6, 0);
            x.flip(3, 6, 0);
        }
        tellFlags(x, a, b, 0, NOTHING);
        int what = recovery ? RECOVERY : NOTHING;
        due("lasts(0)", x.lasts(0), boots);
        due("lasts(1)", x.lasts(1), what);
        for (int n = 1; n <= boots; n++) {
            due("boot " + n, x.boot(false, NONE) >= RECOVERY, n == boots);
            x.off();
        }
    }

    static void bootsWithoutHealth() {
        says(29, "till RECOVERY STARTS first, or nothing (that one counted; 60 at most)");
        for (boolean recovery : new boolean[] {true, false}) {
            lasts("", 0, 0, recovery, 1);
            lasts(";limit 1", slotByte(1, 7, 1), 0, recovery, 2);
            lasts(";limit 9", slotByte(1, 1, 0), 0, recovery, 2);
            lasts(";limit 9", slotByte(1, 1, 0), slotByte(2, 2, 0), recovery, 4);
            lasts(";limit 9", slotByte(1, 7, 0), 0, recovery, 8);
            lasts(";limit 9", slotByte(1, 7, 0), slotByte(1, 1, 0), recovery, 9);
            lasts(";limit 9", slotByte(1, 7, 0), slotByte(1, 2, 0), recovery, 10);
            lasts(";limit 9", slotByte(1, 7, 0), slotByte(1, 7, 0), recovery, 10);
            lasts(";limit 9", slotByte(15, 0, 1), slotByte(15, 0, 1), recovery, 10);
        }
    }

    static void lastsThatAreNot() {
        says(29, "NONE for others.");
        for (TwinSlots x : new TwinSlots[] {new TwinSlots(), inSlotA()}) {
            due("lasts(2)", x.lasts(2), NONE);
            due("lasts(-1)", x.lasts(-1), NONE);
            for (int n : FAR) {
                due("lasts(" + n + ")", x.lasts(n), NONE);
            }
        }
    }

    static void lastsOfWhatRuns() {
        says(29, "(the machine OFF ahead of each, no HEALTH)");
        TwinSlots x = inSlotA(THREE_KEYS + ";limit 9;tries 3");
        due("two tries are left", x.lasts(0), 3);
        x.health(NONE);
        due("good", x.lasts(0), 10);
        due("it runs", x.count(6), A);
    }

    // ---- 30, 31: slack and frail

    private static void slack(TwinSlots x, int store, int least) {
        int bits = 0;
        for (int n = 0; n < 14 * BITS_OF_A_WORD; n++) {
            x.flip(store, n / BITS_OF_A_WORD, n % BITS_OF_A_WORD);
            bits += x.why(store) == 0 ? 1 : 0;
            x.undo();
        }
        due("slack(" + store + ")", x.slack(store), bits);
        due("bits are " + bits, bits >= least, true);
    }

    static void bitsOfEachStore() {
        says(30, "SLACK of a STORE: how many bits (0 to 30 of WORDS 0 to 13), turned alone, leave it able to start.");
        TwinSlots x = manyWays();
        slack(x, 0, 15);
        slack(x, 1, 0);
        slack(x, 2, 15 * 2 + 6 * BITS_OF_A_WORD);
        slack(x, 3, 1);
        TwinSlots y = inRecovery("key 1;key 1;key 1;key 1;image 0 0 revokes 3 parts 99999 1 99999 0");
        slack(y, 2, 5 * 15);
        due("four parts and word 2: bits 16 to 30", y.slack(2), 5 * 15);
        due("an empty store", y.slack(0), 0);
    }

    static void slackOfStoresThatAreNot() {
        says(30, "SLACK of a STORE; NONE without it.");
        TwinSlots x = inSlotA();
        due("slack(4)", x.slack(4), NONE);
        due("slack(-1)", x.slack(-1), NONE);
        for (int n : FAR) {
            due("slack(" + n + ")", x.slack(n), NONE);
        }
    }

    private static void frail(TwinSlots x, int starts, int flags) {
        int start = x.next(false);
        long told = flagsOf(x);
        int[] bits = new int[2];
        for (int n = 0; n < 128; n++) {
            x.blot(n / 64, n / 8 % 8, n % 8);
            bits[0] += x.next(false) == start ? 0 : 1;
            bits[1] += flagsOf(x) == told ? 0 : 1;
            x.undo();
        }
        due("frail(0)", x.frail(0), bits[0]);
        due("frail(1)", x.frail(1), bits[1]);
        due("by which another one starts", bits[0], starts);
        due("by which flags are others", bits[1], flags);
    }

    static void bitsOfPages() {
        says(31, "FRAIL: bits of bytes of PAGES.");
        frail(new TwinSlots(), 0, 0);
        frail(inRecovery(), 0, 64);
        TwinSlots x = inSlotA();
        frail(x, 0, 64);
        x.install(B, 2, NONE);
        // The page behind the newest one has the flags of B empty: A starts.
        frail(x, 64, 64);
        x.flip(2, 6, 0);
        x.flip(3, 6, 0);
        bytes(x, 1 - x.count(9), 0, 0, 0, 0, 0, 0, 0, 0);
        frail(x, 64, 64);
        due("nothing", x.next(true), NOTHING);
        bytes(x, x.count(9), 0, 0, 0, 0, 0, 0, 0, 0);
        frail(x, 0, 0);
    }

    static void oneBitThatMakesAPageWhole() {
        says(31, "by which a BOOT without the button would START another one (or nothing, or something)");
        TwinSlots x = inSlotA();
        x.flip(2, 6, 0);
        x.flip(3, 6, 0);
        bytes(x, 1 - x.count(9), 0, 0, 0, 0, 0, 0, 0, 0);
        x.blot(x.count(9), 7, 7);
        due("nothing starts", x.next(false), NOTHING);
        frail(x, 1, 1);
    }

    static void sequenceIsNoFlag() {
        says(31, "1: by which FLAGS are others");
        TwinSlots x = new TwinSlots();
        page(x, 0, 4, 17, 18, 1, 1);
        page(x, 1, 5, 17, 18, 1, 1);
        frail(x, 0, 0);
        page(x, 1, 5, 17, 18, 2, 1);
        frail(x, 0, 64);
        page(x, 1, 5, 17, 18, 1, 2);
        frail(x, 0, 64);
        page(x, 1, 6, 17, 18, 1, 2);
        frail(x, 0, 64);
    }

    static void flagsThatDifferByTwoBits() {
        says(31, "1: by which FLAGS are others");
        // Each flag's bit alone on a page against each other one on the other page: none may stand for another.
        // Behind the last of 32 bits stands none.
        for (int first = 0; first <= 32; first++) {
            for (int second = 0; second <= 32; second++) {
                TwinSlots x = new TwinSlots();
                pageOfOneBit(x, 0, 5, first);
                pageOfOneBit(x, 1, 4, second);
                due("bits " + first + " and " + second, x.frail(1), first == second ? 0 : 64);
            }
        }
    }

    private static void pageOfOneBit(TwinSlots x, int page, int sequence, int bit) {
        int[] flags = new int[5];
        flags[bit / 8] = 1 << bit % 8;
        page(x, page, sequence, flags[0], flags[1], flags[2], flags[3]);
    }

    static void frailsThatAreNot() {
        says(31, "NONE for others.");
        TwinSlots x = inSlotA();
        due("frail(2)", x.frail(2), NONE);
        due("frail(-1)", x.frail(-1), NONE);
        for (int n : FAR) {
            due("frail(" + n + ")", x.frail(n), NONE);
        }
    }

    // ---- 32: route

    private static void route(TwinSlots x, int version, int... moves) {
        due("route(" + version + ", NONE)", x.route(version, NONE), moves.length);
        for (int k = 0; k < moves.length; k++) {
            due("route(" + version + ", " + k + ")", x.route(version, k), moves[k]);
        }
        due("route(" + version + ", " + moves.length + ")", x.route(version, moves.length), -2);
        due("route(" + version + ", the greatest)", x.route(version, Integer.MAX_VALUE), -2);
    }

    static void routesThatAreNot() {
        says(32, "NONE for others.");
        TwinSlots x = inRecovery("key 1;image 0 0 parts 1;image 30 0 parts 2;image 29 0 parts 3");
        due("route(31, NONE)", x.route(31, NONE), NONE);
        due("route(-1, NONE)", x.route(-1, NONE), NONE);
        due("route(-1, 0)", x.route(-1, 0), NONE);
        due("route(30, -2)", x.route(30, -2), NONE);
        route(x, 30, 101, 0, 1, 2);
        route(x, 0, 100, 0, 1, 2);
        for (int n : FAR) {
            due("route(" + n + ", 0)", x.route(n, 0), NONE);
            due("route(31, " + n + ")", x.route(31, n), NONE);
            due("route(0, " + n + ")", x.route(0, n), n < 0 ? NONE : -2);
        }
    }

    static void routeOfNone() {
        says(32, "(0, if it is so now)");
        TwinSlots x = inSlotA();
        route(x, 4, 2);
        x.health(NONE);
        route(x, 4);
        x.flip(A, 0, 3);
        route(x, 12);
        x.off();
        x.flip(A, 0, 3);
        route(x, 4, 1, 2);
        TwinSlots y = inRecovery("key 1;image 0 0 parts 1");
        y.health(NONE);
        route(y, 0, 100, 0, 1, 2);
    }

    static void routeWithoutAWay() {
        says(32, "-2: there is none");
        TwinSlots x = new TwinSlots();
        due("nothing can start", x.route(0, NONE), -2);
        due("nor is there a first", x.route(0, 0), -2);
        due("nor another", x.route(30, 299), -2);
        TwinSlots y = told("key 1");
        due("without images", y.route(0, NONE), -2);
    }

    static void routeBySlotsThenImages() {
        says(32, "by OFF, BOOT, HEALTH, INSTALL (by slots, then IMAGES), in this order, as far as these can be");
        String two = "key 1;image 0 0 parts 1;image 5 0 parts 2;image 5 0 parts 3";
        TwinSlots x = inRecovery(two);
        route(x, 5, 101, 0, 1, 2);
        x.install(A, 0, NONE);
        x.off();
        x.boot(false, NONE);
        due("A runs", x.count(6), A);
        route(x, 5, 111, 0, 1, 2);
        x.health(NONE);
        route(x, 0);
        x.install(B, 2, NONE);
        route(x, 5, 0, 1, 2);
        route(x, 0);
        x.off();
        route(x, 5, 1, 2);
    }

    static void routeByHealthOfRecovery() {
        says(32, "the fewest of OFF, BOOT (without the button), HEALTH, INSTALL (of a slot, an IMAGE), without CUTS");
        TwinSlots x = inRecovery("key 1;image 0 0 parts 1;image 6 0 parts 2;limit 1;tries 1");
        x.install(A, 1, NONE);
        route(x, 6, 0, 1, 2);
        x.off();
        tellFlags(x, slotByte(15, 1, 0), 0, 1, NOTHING);
        route(x, 6, 1, 2, 0, 1, 2);
        tellFlags(x, slotByte(15, 1, 0), 0, 255, NOTHING);
        route(x, 6, 1, 2, 0, 1, 2);
        tellFlags(x, slotByte(15, 1, 0), 0, 0, NOTHING);
        route(x, 6, 1, 2);
        tellFlags(x, slotByte(15, 0, 0), 0, 0, NOTHING);
        route(x, 6, 1, 101, 0, 1, 2);
    }

    /** Recovery stands, page 0 alone tells these flags. */
    private static TwinSlots withFlags(String text, int a, int b, int failures, int last) {
        TwinSlots x = told(text);
        x.factory(0);
        page(x, 0, 7, a, b, failures, last);
        return x;
    }

    static void stand300And301() {
        says(32, "300 at most, those in which it is so not counted: would the 301st come ahead of one, it is UNKNOWN");
        // Version 9 is nowhere, so all stands come that can: they are few, for there is one image.
        TwinSlots x = withFlags(ONE_IMAGE, 29, 0, 2, 2);
        due("299 stands", x.route(9, NONE), -2);
        due("299 stands", x.route(9, 0), -2);
        TwinSlots y = withFlags(ONE_IMAGE, 19, 0, 2, 0);
        due("300 stands", y.route(9, NONE), -2);
        due("300 stands", y.route(9, 0), -2);
        TwinSlots z = withFlags("key 1;image 0 0 revokes 0 parts 1;limit 1;tries 3", 2, 0, 2, 1);
        z.boot(false, NONE);
        z.install(A, 0, NONE);
        due("301 stands", z.route(9, NONE), -3);
        due("301 stands", z.route(9, 0), -3);
        due("301 stands", z.route(9, Integer.MAX_VALUE), -3);
        route(z, 0, 2, 0, 1, 2);
    }

    static void standsOfLikeImages() {
        says(32, "STANDS are alike, if WORDS, FLAGS (but SEQUENCE), FUSES, what is RUNNING");
        // As many stands as by one image, for the others have the same words.
        String image = "image 0 0 revokes 1 parts 1;";
        for (int images = 1; images <= 6; images++) {
            TwinSlots x = withFlags(ONE_IMAGE.replace(image, image.repeat(images)), 19, 0, 2, 0);
            due("images", x.count(1), images);
            due("300 stands by " + images + " images", x.route(9, NONE), -2);
            route(x, 0, 1, 2, 100, 0, 1, 2);
        }
        TwinSlots y = withFlags(ONE_IMAGE.replace(image, image + "image 0 0 parts 1;"), 19, 0, 2, 0);
        due("more by another one", y.route(9, NONE), -3);
    }

    static void standsOfSlotsThatHoldAnImage() {
        says(32, "STANDS are alike, if WORDS, FLAGS (but SEQUENCE), FUSES, what is RUNNING");
        int[][] flags = {{0, 54, 2, 0}, {39, 12, 0, 0}, {37, 7, 2, 0}, {61, 45, 0, 0}};
        for (int n = 0; n < 4; n++) {
            TwinSlots x = withFlags(ONE_IMAGE, flags[n][0], flags[n][1], flags[n][2], flags[n][3]);
            lay(x, n / 2, 0);
            due("300 or 301 stands", x.route(9, NONE), n % 2 == 0 ? -2 : -3);
        }
    }

    static void slotsThatHoldAlmostAnImage() {
        says(32, "STANDS are alike, if WORDS");
        for (int k = 0; k < 14; k++) {
            TwinSlots x = inRecovery("key 1;image 0 0 parts 1;image 5 0 parts 1 2 3 4");
            lay(x, A, 1);
            x.flip(A, k, 0);
            due("it cannot start", k == 2 || x.why(A) > 0, true);
            route(x, 5, 101, 0, 1, 2);
            route(x, 0, 100, 0, 1, 2);
        }
        for (int held = 0; held < 2; held++) {
            TwinSlots x = inRecovery("key 1;image 2 0 parts 1;image 5 0 parts 1 2 3 4");
            lay(x, A, held);
            route(x, 2, 100, 0, 1, 2);
            route(x, 5, 101, 0, 1, 2);
            tellFlags(x, slotByte(15, 2, 0), 0, 0, RECOVERY);
            x.off();
            x.boot(false, NONE);
            due("A runs", x.count(6), A);
            lay(x, B, held);
            route(x, held == 0 ? 5 : 2, 111 - held, 0, 1, 2);
        }
    }

    /** Slot A runs version 5, without health and with failures at limit; the bundle has one image alone. */
    private static TwinSlots atLimit(String keys, String image, int revokes) {
        TwinSlots x = told(keys + ";image 5 0 parts 2");
        x.factory(0);
        lay(x, A, 0);
        word(x, A, 2, revokes);
        tell(x, keys + ";" + image + ";limit 1;tries 1");
        // The sign is by key 0, whose secret is 1, so that the word that was turned is signed.
        long h = 8;
        for (int k = 0; k < 5; k++) {
            h = (h * 31 + x.word(A, k)) % 65536;
        }
        word(x, A, 5, (int) h);
        tellFlags(x, slotByte(15, 1, 0), 0, 0, NOTHING);
        due("boot", x.boot(false, NONE), A);
        return x;
    }

    static void fusesOnTheWay() {
        says(32, "STANDS are alike, if WORDS, FLAGS (but SEQUENCE), FUSES");
        // Health of A would set failures to 0 at once, but blow the fuse: the way goes by recovery.
        String keys = "key 1;key 1;key 1;key 1;key 1;key 1";
        int[] byRecovery = {0, 1, 2, 100, 0, 1, 2};
        int[] byHealth = {2, 110, 0, 1, 2};
        route(atLimit(keys, "image 4 0 parts 1", 0), 4, byRecovery);
        route(atLimit(keys, "image 6 0 parts 1", 0), 6, byHealth);
        for (int key = 0; key < 6; key++) {
            route(atLimit(keys, "image 6 " + key + " parts 1", 1 << key), 6, byRecovery);
            route(atLimit(keys, "image 6 " + key + " parts 1", 63 - (1 << key)), 6, byHealth);
        }
    }

    static void fusesOfHighVersionsOnTheWay() {
        says(32, "STANDS are alike, if WORDS, FLAGS (but SEQUENCE), FUSES");
        for (int rollback : new int[] {0, 1, 15, 16, 29, 30, 31}) {
            TwinSlots x = inSlotA("key 1;key 1;image 0 0 parts 1;image 30 1 parts 2;limit 9;tries 7");
            word(x, A, 0, rollback + 1);
            x.health(NONE);
            due("rollback", x.count(4), rollback);
            word(x, A, 0, 31);
            x.off();
            if (rollback < 31) {
                route(x, 30, 1, 2);
            } else {
                due("no way by a slot", x.next(false), RECOVERY);
            }
        }
    }

    static void goodWithoutTriesOnTheWay() {
        says(32, "STANDS are alike, if WORDS, FLAGS (but SEQUENCE), FUSES, what is RUNNING");
        for (int slot = 0; slot < 2; slot++) {
            TwinSlots x = told("key 1;image 5 0 parts 2;limit 1;tries 1");
            x.factory(0);
            lay(x, slot, 0);
            tellFlags(x, slot == 0 ? slotByte(5, 0, 1) : 0, slot == 1 ? slotByte(5, 0, 1) : 0, 0, NOTHING);
            route(x, 5, 1, 2);
            x.blot(0, 2 + slot, 0);
            x.blot(0, 7, 0);
            due("another page", x.whole(0), 0);
            route(x, 5, 1, 100, 0, 1, 2);
        }
    }

    static void unknownOfMany() {
        says(32, "-3: UNKNOWN");
        TwinSlots x = inSlotA();
        due("version 30 is nowhere", x.route(30, NONE), -3);
        due("nor is a move of it known", x.route(30, 0), -3);
        due("of k below NONE", x.route(30, -2), NONE);
        route(x, 4, 2);
    }

    static void standsByHealthAlone() {
        says(32, "what is RUNNING and (if something is) whether HEALTH was told since its START are");
        // Off with health told, off without: alike. From a slot whose health was told the way goes by OFF and BOOT.
        TwinSlots x = inSlotA("key 1;image 0 0 parts 1;image 4 0 parts 2;image 8 0 parts 3");
        x.health(NONE);
        x.off();
        x.flip(A, 5, 0);
        route(x, 8, 1, 102, 0, 1, 2);
        x.flip(A, 5, 0);
        route(x, 4, 1, 2);
        route(x, 8, 1, 112, 0, 1, 2);
    }

    // ---- 33: draws

    static void drawsThatAreNot() {
        says(33, "x becomes a number: what it was; NONE, and nothing happens, below 0.");
        TwinSlots x = new TwinSlots();
        due("x at first", x.count(12), 0);
        due("draws(-1)", x.draws(-1), NONE);
        due("x", x.count(12), 0);
        due("the greatest", x.draws(2147483647), 0);
        due("draws(-1)", x.draws(-1), NONE);
        due("the least", x.draws(Integer.MIN_VALUE), NONE);
        due("x", x.count(12), 2147483647);
        due("draws(0)", x.draws(0), 2147483647);
        due("draws(1)", x.draws(1), 0);
        due("x", x.count(12), 1);
        due("no act", x.count(11), 0);
    }

    // ---- 34: life

    static void livesThatAreNot() {
        says(34, "A LIFE of n (1 to 60) DEEDS");
        TwinSlots x = inSlotA();
        due("life(0, 0)", x.life(0, 0), NONE);
        due("life(61, 0)", x.life(61, 0), NONE);
        due("life(-1, 0)", x.life(-1, 0), NONE);
        due("life(1, -1)", x.life(1, -1), NONE);
        due("life(1, 6)", x.life(1, 6), NONE);
        for (int what = 0; what < 6; what++) {
            due("life(1, " + what + ")", x.life(1, what) >= 0, true);
            due("life(60, " + what + ")", x.life(60, what) >= 0, true);
        }
        for (int n : FAR) {
            due("life(" + n + ", 0)", x.life(n, 0), NONE);
            due("life(1, " + n + ")", x.life(1, n), NONE);
        }
    }

    static void livesWithoutImages() {
        says(34, "NONE without these, or IMAGES.");
        TwinSlots x = new TwinSlots();
        due("without a bundle", x.life(1, 0), NONE);
        tell(x, "key 1");
        due("without images", x.life(60, 3), NONE);
        tell(x, "key 1;image 0 0 parts 1");
        due("with one image", x.life(60, 4), 0);
        tell(x, "key 1");
        due("without images again", x.life(1, 0), NONE);
    }

    private static long drawn;

    private static int draw(int k) {
        drawn = (drawn * 1103515245L + 12345L) % 2147483648L;
        return (int) (drawn / 65536 % k);
    }

    private static int drawCut() {
        int c = draw(20);
        return c == 19 ? NONE : 3 * c;
    }

    static void cutsThatAreDrawn() {
        says(34, "A CUT: c, a DRAW of 20: 3 * c, of 19 NONE.");
        // A boot of recovery writes 9 times: cut at 0, 3, 6 power fails, from 9 on it starts.
        TwinSlots x = told(THREE_KEYS);
        x.factory(0);
        boolean[] drawnOnce = new boolean[20];
        for (int seed = 0; seed < 2000; seed++) {
            drawn = seed * 1000003 & Integer.MAX_VALUE;
            x.draws((int) drawn);
            draw(4);
            int c = draw(20);
            drawnOnce[c] = true;
            int starts = c >= 3 ? 1 : 0;
            due("starts of a cut " + c, x.life(1, 0), starts);
            due("starts of recovery", x.life(1, 1), starts);
            due("boots of nothing", x.life(1, 2), 0);
            due("power failed", x.life(1, 3), 1 - starts);
        }
        for (int c = 0; c < 20; c++) {
            due("c is " + c + " once", drawnOnce[c], true);
        }
    }

    static void installsThatAreDrawn() {
        says(34, "A CUT: c, a DRAW of 20: 3 * c, of 19 NONE.");
        // An install writes 39 times: cut at 36 power fails, at 39 it does not; the seeds draw a kind of 2 or 3.
        TwinSlots x = inRecovery();
        boolean[] drawnOnce = new boolean[20];
        for (int seed = 0; seed < 4000; seed++) {
            drawn = seed * 1000003 & Integer.MAX_VALUE;
            x.draws((int) drawn);
            int kind = draw(8);
            if (kind == 2 || kind == 3) {
                draw(2);
                draw(6);
                int c = draw(20);
                drawnOnce[c] = true;
                due("install cut by " + c, x.life(1, 3), c <= 12 ? 1 : 0);
                due("no start", x.life(1, 0), 0);
            }
        }
        for (int c = 0; c < 20; c++) {
            due("c is " + c + " once", drawnOnce[c], true);
        }
    }

    /** Lives a deed by the calls themselves: what a boot answered, POWER_FAILED, else NONE. */
    private static int live(TwinSlots x) {
        if (x.count(6) == NONE) {
            boolean button = draw(4) == 0;
            return x.boot(button, drawCut());
        }
        int kind = draw(8);
        if (kind == 5) {
            x.off();
            return NONE;
        }
        int deed = kind <= 1 ? 1 : kind <= 3 ? 2 : kind == 4 ? 3 : kind == 6 ? 5 : 6;
        int a = deed == 2 ? draw(2) : 0;
        int b = deed == 2 || deed == 3 ? draw(x.count(1)) : 0;
        return perform(x, deed, a, b, drawCut()) == POWER_FAILED ? POWER_FAILED : NONE;
    }

    static void livesOfEachLength() {
        says(34, "A LIFE of n DEEDS from now on (nothing stays; x as it was)");
        int[] seeds = {0, 1, 65535, 65536, 2147483646, 2147483647};
        for (int seed : seeds) {
            for (int n = 1; n <= 60; n++) {
                TwinSlots x = inSlotA(THREE_KEYS + ";limit 9");
                x.draws(seed);
                int[] answers = new int[6];
                for (int what = 0; what < 6; what++) {
                    answers[what] = x.life(n, what);
                }
                due("x as it was", x.count(12), seed);
                drawn = seed;
                int[] due = new int[6];
                int[] startsOf = new int[31];
                for (int k = 0; k < n; k++) {
                    int answer = live(x);
                    due[0] += answer >= 0 && answer < NOTHING ? 1 : 0;
                    due[1] += answer == RECOVERY ? 1 : 0;
                    due[2] += answer == NOTHING ? 1 : 0;
                    due[3] += answer == POWER_FAILED ? 1 : 0;
                    if (answer == A || answer == B) {
                        startsOf[x.started(0, 1)]++;
                    }
                }
                due[4] = x.count(4);
                for (int version = 0; version < due[4]; version++) {
                    due[5] += startsOf[version];
                }
                for (int what = 0; what < 6; what++) {
                    due("life(" + n + ", " + what + ") from " + seed, answers[what], due[what]);
                }
            }
        }
    }

    static void startsBelowTheLastRollback() {
        says(34, "4: ROLLBACK at its end, 5: STARTS of slots with a VERSION below ROLLBACK then");
        int below = 0;
        for (int seed = 0; seed < 300; seed++) {
            TwinSlots x = told("key 1;image 0 0 parts 1;image 1 0 parts 2;limit 9;tries 7");
            x.factory(0);
            lay(x, A, 0);
            lay(x, B, 0);
            tellFlags(x, slotByte(15, 7, 0), slotByte(14, 7, 0), 0, NOTHING);
            x.draws(seed * 7919);
            int due = x.life(60, 5);
            int starts = x.life(60, 0) - x.life(60, 1);
            drawn = seed * 7919;
            int ofZero = 0;
            for (int k = 0; k < 60; k++) {
                int answer = live(x);
                ofZero += (answer == A || answer == B) && x.started(0, 1) == 0 ? 1 : 0;
            }
            due("starts below from " + seed, due, x.count(4) == 1 ? ofZero : 0);
            due("of all starts of slots", due <= starts, true);
            below += due;
        }
        due("some are", below > 0, true);
    }

    static void livesThatStartNothing() {
        says(34, "2: how many BOOTS STARTED nothing");
        TwinSlots x = told("key 1;image 0 0 parts 1");
        for (int seed = 0; seed < 40; seed++) {
            x.draws(seed * 7919);
            due("each boot", x.life(60, 2), 60);
            due("no write, so power does not fail", x.life(60, 3), 0);
            due("no start", x.life(60, 0), 0);
            due("one boot", x.life(1, 2), 1);
        }
    }

    // ---- 35, 36: starts and versions

    static void startsThatAreNot() {
        says(35, "Of the k-th (0 the latest) of the STARTS what 0: 0 A, 1 B, 2 RECOVERY, 1: its VERSION. NONE without these.");
        TwinSlots x = new TwinSlots();
        due("ahead of any", x.started(0, 0), NONE);
        due("ahead of any", x.started(0, 1), NONE);
        x.boot(false, NONE);
        due("a boot of nothing is none", x.started(0, 0), NONE);
        TwinSlots y = inSlotA();
        due("started(0, 0)", y.started(0, 0), A);
        due("started(1, 1)", y.started(1, 1), 0);
        due("started(2, 0)", y.started(2, 0), NONE);
        due("started(-1, 0)", y.started(-1, 0), NONE);
        due("started(0, -1)", y.started(0, -1), NONE);
        due("started(0, 2)", y.started(0, 2), NONE);
        for (int n : FAR) {
            due("started(" + n + ", 0)", y.started(n, 0), NONE);
            due("started(0, " + n + ")", y.started(0, n), NONE);
        }
    }

    static void twelveStarts() {
        says(35, "STARTS: the latest 12, what STARTED and its VERSION.");
        TwinSlots x = inRecovery("key 1;image 7 0 parts 1;image 3 0 parts 2;limit 9;tries 7");
        x.install(A, 1, NONE);
        // Start 0 is of recovery, then of A by turns with recovery.
        for (int starts = 1; starts <= 30; starts++) {
            for (int k = 0; k < 14; k++) {
                int n = starts - 1 - k;
                boolean kept = k < 12 && n >= 0;
                due("started(" + k + ", 0) of " + starts, x.started(k, 0), !kept ? NONE : n % 2 == 0 ? RECOVERY : A);
                due("started(" + k + ", 1) of " + starts, x.started(k, 1), !kept ? NONE : n % 2 == 0 ? 7 : 3);
            }
            if (starts % 2 == 0) {
                x.health(NONE);
            }
            x.off();
            x.boot(starts % 2 == 0, NONE);
        }
    }

    static void startsOfWaits() {
        says(35, "STARTS: the latest 12, what STARTED and its VERSION.");
        TwinSlots x = inSlotA(THREE_KEYS + ";watch 1;limit 9;tries 7");
        due("boots", x.waits(7), 7);
        due("the latest", x.started(0, 0), RECOVERY);
        due("the one before", x.started(1, 0), A);
        due("the first", x.started(8, 0), RECOVERY);
        due("no more", x.started(9, 0), NONE);
    }

    static void startsThatAreCut() {
        says(35, "STARTS: the latest 12");
        TwinSlots x = inSlotA();
        x.off();
        due("cut ahead of its last write", x.boot(false, 8), POWER_FAILED);
        due("no start", x.started(2, 0), NONE);
        due("cut behind it", x.boot(false, 9), A);
        due("a start", x.started(2, 0), RECOVERY);
    }

    static void versionAsItStarted() {
        says(35, "what STARTED and its VERSION");
        TwinSlots x = inSlotA();
        word(x, A, 0, 31);
        due("as it was then", x.started(0, 1), 4);
        TwinSlots y = inRecovery("key 1;image 30 0 parts 1");
        due("version 30", y.started(0, 1), 30);
    }

    static void versionsOfSlots() {
        says(36, "The least (what 0), the greatest (1) VERSION of the slots that can start; -2: none can. NONE for others.");
        TwinSlots x = inRecovery("key 1;image 0 0 parts 1;image 30 0 parts 2");
        due("none can", x.least(0), -2);
        due("none can", x.least(1), -2);
        due("least(2)", x.least(2), NONE);
        due("least(-1)", x.least(-1), NONE);
        for (int n : FAR) {
            due("least(" + n + ")", x.least(n), NONE);
        }
        for (int a = 0; a < 3; a++) {
            for (int b = 0; b < 3; b++) {
                TwinSlots y = inRecovery("key 1;image 0 0 parts 1;image 30 0 parts 2");
                int least = 99;
                int greatest = -2;
                for (int slot = 0; slot < 2; slot++) {
                    int image = slot == 0 ? a : b;
                    if (image < 2) {
                        lay(y, slot, image);
                        least = Math.min(least, 30 * image);
                        greatest = Math.max(greatest, 30 * image);
                    }
                }
                due("least(0) of " + a + ", " + b, y.least(0), greatest == -2 ? -2 : least);
                due("least(1) of " + a + ", " + b, y.least(1), greatest);
            }
        }
    }

    static void slotsAtRollback() {
        says(36, "VERSION of the slots that can start");
        TwinSlots x = inSlotA();
        lay(x, B, 1);
        x.health(NONE);
        due("at rollback", x.least(0), 4);
        lay(x, B, 0);
        due("0 is below it", x.least(0), 4);
        x.off();
        due("off, too", x.least(1), 4);
    }

    // ---- 37: counts

    static void countsThatAreNot() {
        says(37, "NONE for others.");
        for (TwinSlots x : new TwinSlots[] {new TwinSlots(), manyWays()}) {
            due("count(19)", x.count(19), NONE);
            due("count(20)", x.count(20), NONE);
            due("count(-1)", x.count(-1), NONE);
            for (int n : FAR) {
                due("count(" + n + ")", x.count(n), NONE);
            }
        }
    }

    static void countsOfANewObject() {
        says(37, "0 ahead of any");
        int[] due = {0, 0, 3, 3, 0, 0, NONE, 0, 3, NONE, NONE, 0, 0, 0, 0, 20, 0, 0, 0};
        TwinSlots x = new TwinSlots();
        for (int what = 0; what < due.length; what++) {
            due("count(" + what + ")", x.count(what), due[what]);
        }
        x.boot(false, NONE);
        due("a boot that starts nothing", x.count(14), 0);
        due("ticks", x.count(16), 0);
        due("told", x.count(17), 0);
    }

    static void writesOfTheLatestDeed() {
        says(37, "how many WRITES the latest DEED did that was done or CUT (one of WAIT's BOOTS, too; 0 ahead of any)");
        TwinSlots x = inSlotA(THREE_KEYS + ";watch 3");
        due("of a boot", x.count(14), 9);
        x.install(B, 9, NONE);
        x.health(-2);
        due("of what is refused nothing", x.count(14), 9);
        x.health(NONE);
        due("of health", x.count(14), 13);
        x.flip(0, 13, 0);
        x.off();
        x.factory(1);
        x.cuts(0, 0, 0, 0);
        x.next(true);
        due("of no deed", x.count(14), 13);
        x.flip(A, 13, 0);
        x.boot(false, NONE);
        x.install(B, 2, 30);
        due("cut", x.count(14), 30);
        x.boot(false, 0);
        due("cut at 0", x.count(14), 0);
        x.boot(false, NONE);
        x.mend(NONE);
        int writes = x.count(14);
        x.waits(2);
        due("a wait without a boot", x.count(14), writes);
        due("a wait with one", x.waits(1), 1);
        due("its writes", x.count(14), 9);
        x.undo();
        due("undone", x.count(14), writes);
    }

    static void ticksAndHealthSinceTheStart() {
        says(37, "17: 1 if HEALTH was told since it (not CUT), else 0");
        TwinSlots x = inSlotA();
        due("ticks", x.count(16), 0);
        due("told", x.count(17), 0);
        x.waits(5);
        due("cut at as many as its writes", x.health(13), 4);
        due("told", x.count(17), 1);
        x.off();
        due("told, off", x.count(17), 1);
        due("ticks, off", x.count(16), 5);
        x.boot(true, 5);
        due("a boot that is cut starts nothing", x.count(17), 1);
        due("ticks", x.count(16), 5);
        x.boot(false, NONE);
        due("a new start", x.count(17), 0);
        due("ticks", x.count(16), 0);
        due("cut", x.health(8), POWER_FAILED);
        due("told, but cut", x.count(17), 0);
        x.boot(false, NONE);
        x.health(NONE);
        due("cut", x.health(0), POWER_FAILED);
        due("told before", x.count(17), 1);
        TwinSlots y = inRecovery();
        y.health(NONE);
        due("of recovery", y.count(17), 1);
    }

    static void runningOfEach() {
        says(37, "6: what is RUNNING (0 A, 1 B, 2 RECOVERY, NONE: OFF)");
        TwinSlots x = inRecovery();
        due("recovery", x.count(6), RECOVERY);
        x.install(B, 1, NONE);
        x.off();
        due("off", x.count(6), NONE);
        x.boot(false, NONE);
        due("B", x.count(6), B);
        x.install(A, 1, NONE);
        x.off();
        x.boot(false, NONE);
        due("A", x.count(6), A);
        x.health(0);
        due("off", x.count(6), NONE);
    }

    static void countsAtTheirMost() {
        says(37, "What 0: KEYS, 1: IMAGES, 2: limit, 3: tries, 4: ROLLBACK, 5: KEYS whose FUSES are blown, as bits");
        TwinSlots x = inSlotA("key 1;".repeat(6) + "image 30 0 parts 1;".repeat(6) + "limit 9;tries 7;watch 99");
        word(x, A, 0, 32);
        word(x, A, 2, 63);
        x.health(NONE);
        x.draws(2147483647);
        int[] due = {6, 6, 9, 7, 31, 63, A, 0, A};
        for (int what = 0; what < due.length; what++) {
            due("count(" + what + ")", x.count(what), due[what]);
        }
        due("acts", x.count(11), 12);
        due("x", x.count(12), 2147483647);
        due("writes", x.count(14), 9 + 31 + 6);
        due("watch", x.count(15), 99);
        feed(x, " ".repeat(300));
        due("tape", x.count(13), 300);
    }
}
