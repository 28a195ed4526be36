/** The edges that the third Terms and promises 7 to 15 and 18 name: boots, health, installs, ticks, acts undone. */
public final class DeedEdgesTest extends Checks {
    private static final int[] DEEDS = {0, 1, 2, 3, 4, 5, 6};

    public static void main(String[] args) {
        runAll(DeedEdgesTest.class);
    }

    /** Both slots can start (version 4 in A, 6 in B), recovery too; the machine is off. */
    private static TwinSlots withBoth(String text) {
        TwinSlots x = told(text);
        x.factory(0);
        lay(x, A, 1);
        lay(x, B, 2);
        return x;
    }

    private static void makeUnable(TwinSlots x, int store) {
        x.flip(store, 6, 0);
        due("why(" + store + ")", x.why(store), 5);
    }

    /** Does a deed with the numbers that ableTo() makes room for. */
    private static int perform(TwinSlots x, int deed, int cut) {
        int a = deed == 2 || deed == 4 ? B : 0;
        int b = deed == 2 ? 2 : deed == 3 ? 1 : 0;
        return perform(x, deed, a, b, cut);
    }

    /** An object of which that deed can be done; a mend writes flags and a copy. */
    private static TwinSlots ableTo(int deed) {
        TwinSlots x = inSlotA();
        if (deed == 0) {
            x.off();
        } else if (deed == 5) {
            x.blot(0, 0, 0);
            makeUnable(x, 3);
        } else if (deed == 6) {
            x.install(B, 2, 5);
            x.boot(false, NONE);
        }
        return x;
    }

    // ---- cuts

    static void cutsBelowNone() {
        int[] promises = {7, 8, 9, 10, 11, 12, 13};
        for (int deed : DEEDS) {
            says(promises[deed], "or for another CUT (below NONE)");
            TwinSlots x = ableTo(deed);
            long before = seen(x);
            due("cut -2", perform(x, deed, -2), NONE);
            due("cut -3", perform(x, deed, -3), NONE);
            due("the least cut", perform(x, deed, Integer.MIN_VALUE), NONE);
            due("nothing happened", seen(x), before);
        }
    }

    static void cutsOfAsManyWrites() {
        int[] promises = {7, 8, 9, 10, 11, 12, 13};
        int[] writes = {9, 13, 39, 15, 9, 24, 34};
        int[] answers = {A, 4, 39, 3, 14, 3, 34};
        for (int deed : DEEDS) {
            says(promises[deed], "power fails ahead of the WRITE behind n of them (of all that one call does)");
            TwinSlots x = ableTo(deed);
            int acts = x.count(11);
            due("one less than its writes", perform(x, deed, writes[deed] - 1), POWER_FAILED);
            due("writes", x.count(14), writes[deed] - 1);
            due("it is off", x.count(6), NONE);
            due("it is an act", x.undo(), acts);
            due("as many as its writes", perform(x, deed, writes[deed]), answers[deed]);
            due("writes", x.count(14), writes[deed]);
            due("it runs", x.count(6), A);
            due("undo()", x.undo(), acts);
            due("one more", perform(x, deed, writes[deed] + 1), answers[deed]);
            due("undo()", x.undo(), acts);
            due("the greatest cut", perform(x, deed, Integer.MAX_VALUE), answers[deed]);
            due("undo()", x.undo(), acts);
            due("without a cut", perform(x, deed, NONE), answers[deed]);
            due("writes", x.count(14), writes[deed]);
        }
    }

    static void cutsOfNoWrite() {
        int[] promises = {7, 8, 9, 10, 11, 12, 13};
        for (int deed : DEEDS) {
            says(promises[deed], "A CUT n (0 and on): power fails ahead of the WRITE behind n of them");
            TwinSlots x = ableTo(deed);
            int[] bytes = new int[76];
            for (int n = 0; n < 76; n++) {
                bytes[n] = byteOrWord(x, n);
            }
            due("cut at 0", perform(x, deed, 0), POWER_FAILED);
            due("writes", x.count(14), 0);
            due("it is off", x.count(6), NONE);
            for (int n = 0; n < 76; n++) {
                due("as it was", byteOrWord(x, n), bytes[n]);
            }
        }
    }

    private static int byteOrWord(TwinSlots x, int n) {
        if (n < 56) {
            return x.word(n / 14, n % 14);
        }
        return n < 72 ? x.octet((n - 56) / 8, (n - 56) % 8) : x.journal(n - 72);
    }

    static void cutsOfDeedsWithoutWrites() {
        says(12, "A CUT n (0 and on): power fails ahead of the WRITE behind n of them");
        TwinSlots x = inRecovery();
        x.mend(NONE);
        due("a mend of nothing cut at 0", x.mend(0), 0);
        due("it runs", x.count(6), RECOVERY);
        due("writes", x.count(14), 0);
        says(7, "Can neither, nothing STARTS (nothing is WRITTEN more, the machine is OFF).");
        TwinSlots y = new TwinSlots();
        due("a boot of nothing cut at 0", y.boot(false, 0), NOTHING);
        due("with the button", y.boot(true, 0), NOTHING);
        due("writes", y.count(14), 0);
        due("acts", y.count(11), 2);
    }

    // ---- 7: boot

    static void bootWhileSomethingRuns() {
        says(7, "NONE, and nothing happens, if it is not OFF");
        for (TwinSlots x : new TwinSlots[] {inRecovery(), inSlotA()}) {
            long before = seen(x);
            due("boot", x.boot(false, NONE), NONE);
            due("boot with the button", x.boot(true, NONE), NONE);
            due("boot cut at 0", x.boot(false, 0), NONE);
            due("nothing happened", seen(x), before);
        }
    }

    private static void bootAtFailures(String text, int failures, int due) {
        TwinSlots x = withBoth(THREE_KEYS + text);
        tellFlags(x, slotByte(2, 7, 0), 0, failures, NOTHING);
        due("next at " + failures + " failures" + text, x.next(false), due);
        due("boot at " + failures + " failures" + text, x.boot(false, NONE), due);
        due("failures", x.count(7), due == A ? failures + 1 : failures);
        due("last", x.count(8), due);
        flags(x, A, 2, due == A ? 6 : 7, 0);
    }

    static void failuresBelowLimit() {
        says(7, "is it without, and FAILURES are below limit");
        bootAtFailures(";limit 1", 0, A);
        bootAtFailures(";limit 1", 1, RECOVERY);
        bootAtFailures(";limit 9", 8, A);
        bootAtFailures(";limit 9", 9, RECOVERY);
        bootAtFailures(";limit 9", 10, RECOVERY);
        bootAtFailures("", 2, A);
        bootAtFailures("", 3, RECOVERY);
        bootAtFailures("", 254, RECOVERY);
        bootAtFailures("", 255, RECOVERY);
    }

    static void failuresOf255() {
        says(7, "FAILURES are 1 more (255 at most)");
        TwinSlots x = withBoth(THREE_KEYS + ";limit 9");
        tellFlags(x, slotByte(2, 7, 1), slotByte(2, 7, 1), 255, A);
        due("boot", x.boot(false, NONE), RECOVERY);
        due("failures stay", x.count(7), 255);
        x.prefer(B, NONE);
        due("failures stay", x.count(7), 255);
        x.off();
        due("lasts", x.lasts(0), 1);
        due("boot", x.boot(false, NONE), RECOVERY);
        due("health", x.health(NONE), 0);
        due("failures", x.count(7), 0);
    }

    private static void choice(int a, int b, int due) {
        TwinSlots x = withBoth(THREE_KEYS);
        tellFlags(x, a, b, 0, NOTHING);
        due("boot of " + a + " and " + b, x.boot(false, NONE), due);
        due("writes", x.count(14), 9);
        due("started", x.started(0, 0), due);
        due("its version", x.started(0, 1), due == A ? 4 : due == B ? 6 : 0);
    }

    static void slotsOfTheChoice() {
        says(7, "of the slots with PRIORITY above 0 that are GOOD or have TRIES, that of the greatest PRIORITY (A of like ones)");
        choice(slotByte(0, 7, 1), 0, RECOVERY);
        choice(slotByte(1, 0, 0), 0, RECOVERY);
        choice(slotByte(15, 0, 0), slotByte(15, 0, 0), RECOVERY);
        choice(slotByte(1, 1, 0), 0, A);
        choice(slotByte(1, 0, 1), 0, A);
        choice(0, slotByte(1, 1, 0), B);
        choice(0, slotByte(1, 0, 1), B);
        choice(slotByte(1, 1, 0), slotByte(1, 7, 1), A);
        choice(slotByte(15, 0, 1), slotByte(15, 7, 1), A);
        choice(slotByte(1, 1, 0), slotByte(2, 1, 0), B);
        choice(slotByte(14, 7, 1), slotByte(15, 1, 0), B);
        choice(slotByte(15, 1, 0), slotByte(14, 7, 1), A);
        choice(slotByte(15, 0, 0), slotByte(1, 1, 0), B);
        choice(slotByte(1, 0, 1), slotByte(15, 0, 0), A);
        choice(slotByte(0, 7, 1), slotByte(1, 0, 1), B);
    }

    private static void tryOf(int tries, int good, int then) {
        TwinSlots x = withBoth(THREE_KEYS);
        tellFlags(x, 0, slotByte(3, tries, good), 1, RECOVERY);
        due("boot", x.boot(false, NONE), B);
        flags(x, B, 3, then, good);
        flags(x, A, 0, 0, 0);
        due("failures", x.count(7), 2);
        due("last", x.count(8), B);
    }

    static void triesOfWhatStarts() {
        says(7, "Else, if it is not GOOD, TRIES are 1 less; FAILURES are 1 more (255 at most), LAST is it");
        tryOf(1, 0, 0);
        tryOf(2, 0, 1);
        tryOf(7, 0, 6);
        tryOf(0, 1, 0);
        tryOf(1, 1, 1);
        tryOf(7, 1, 7);
    }

    static void lastTry() {
        says(7, "that are GOOD or have TRIES");
        TwinSlots x = withBoth(THREE_KEYS + ";limit 9");
        tellFlags(x, slotByte(2, 2, 0), slotByte(1, 1, 0), 0, NOTHING);
        int[] dues = {A, A, B, RECOVERY, RECOVERY};
        for (int due : dues) {
            due("boot", x.boot(false, NONE), due);
            x.off();
        }
        due("failures", x.count(7), 3);
    }

    static void slotThatCannotStart() {
        says(7, "can't its STORE start, its PRIORITY, TRIES become 0, it is not GOOD; FLAGS are WRITTEN; and again");
        TwinSlots x = withBoth(THREE_KEYS + ";limit 1");
        tellFlags(x, slotByte(5, 3, 1), slotByte(6, 3, 1), 0, NOTHING);
        makeUnable(x, B);
        due("cut behind the first flags", x.boot(false, 9), POWER_FAILED);
        flags(x, B, 0, 0, 0);
        flags(x, A, 5, 3, 1);
        due("failures", x.count(7), 0);
        due("last", x.count(8), NOTHING);
        x.undo();
        due("then the other one, though limit is 1", x.boot(false, NONE), A);
        due("writes", x.count(14), 18);
        flags(x, B, 0, 0, 0);
        flags(x, A, 5, 3, 1);
        due("failures", x.count(7), 1);
    }

    static void bothSlotsThatCannotStart() {
        says(7, "or no such slot: RECOVERY");
        TwinSlots x = withBoth(THREE_KEYS);
        tellFlags(x, slotByte(6, 3, 1), slotByte(6, 3, 0), 2, B);
        makeUnable(x, A);
        makeUnable(x, B);
        due("cut behind one", x.boot(false, 10), POWER_FAILED);
        flags(x, A, 0, 0, 0);
        flags(x, B, 6, 3, 0);
        x.undo();
        due("cut behind two", x.boot(false, 18), POWER_FAILED);
        flags(x, B, 0, 0, 0);
        due("last", x.count(8), B);
        x.undo();
        due("recovery", x.boot(false, NONE), RECOVERY);
        due("writes", x.count(14), 27);
        due("last", x.count(8), RECOVERY);
        due("failures stay", x.count(7), 2);
        x.undo();
        due("just as many as its writes", x.boot(false, 27), RECOVERY);
        x.undo();
        due("one less", x.boot(false, 26), POWER_FAILED);
    }

    static void nothingThatStarts() {
        says(7, "Can neither, nothing STARTS (nothing is WRITTEN more, the machine is OFF).");
        TwinSlots x = withBoth(THREE_KEYS);
        tellFlags(x, slotByte(6, 3, 1), slotByte(6, 3, 0), 2, B);
        for (int store = 0; store < 4; store++) {
            makeUnable(x, store);
        }
        due("boot", x.boot(false, NONE), NOTHING);
        due("writes", x.count(14), 18);
        due("last stays", x.count(8), B);
        due("failures stay", x.count(7), 2);
        due("it is off", x.count(6), NONE);
        due("no start", x.started(0, 0), NONE);
        due("again", x.boot(false, NONE), NOTHING);
        due("writes", x.count(14), 0);
        due("with the button", x.boot(true, NONE), NOTHING);
    }

    static void bootWithTheButton() {
        says(7, "With the button, FAILURES at limit or above, or no such slot: RECOVERY");
        TwinSlots x = withBoth(THREE_KEYS);
        tellFlags(x, slotByte(15, 7, 1), slotByte(14, 7, 1), 0, NOTHING);
        makeUnable(x, A);
        due("next", x.next(true), RECOVERY);
        due("boot", x.boot(true, NONE), RECOVERY);
        due("writes", x.count(14), 9);
        flags(x, A, 15, 7, 1);
        due("failures stay", x.count(7), 0);
        x.off();
        makeUnable(x, 2);
        makeUnable(x, 3);
        due("B could start, but for the button", x.boot(true, NONE), NOTHING);
        due("writes", x.count(14), 0);
    }

    private static void copies(int two, int three, int version, int refreshed) {
        TwinSlots x = told("key 1;image 0 0 parts 1;image 1 0 parts 1;image 2 0 parts 1");
        lay(x, 2, two);
        lay(x, 3, three);
        due("boot", x.boot(false, NONE), RECOVERY);
        due("its version", x.started(0, 1), version);
        due("the copy that would not start", x.refresh(0, NONE), refreshed);
    }

    static void copyOfRecovery() {
        says(7, "the copy that can start with the greater VERSION (2 of like ones)");
        copies(0, 0, 0, 3);
        copies(1, 1, 1, 3);
        copies(1, 2, 2, 2);
        copies(2, 1, 2, 3);
        copies(0, 1, 1, 2);
        TwinSlots x = told("key 1;image 0 0 parts 1;image 1 0 parts 1;image 2 0 parts 1");
        lay(x, 2, 2);
        lay(x, 3, 1);
        makeUnable(x, 2);
        due("boot", x.boot(false, NONE), RECOVERY);
        due("the one that can", x.started(0, 1), 1);
        due("refresh", x.refresh(0, 0), POWER_FAILED);
        makeUnable(x, 3);
        due("neither", x.boot(false, NONE), NOTHING);
        x.flip(2, 6, 0);
        due("the other one", x.boot(false, NONE), RECOVERY);
        due("its version", x.started(0, 1), 2);
    }

    // ---- 8: health

    static void healthWhenNothingRuns() {
        says(8, "NONE, and nothing happens, if nothing is RUNNING");
        TwinSlots x = inSlotA();
        x.off();
        long before = seen(x);
        due("health", x.health(NONE), NONE);
        due("health cut at 0", x.health(0), NONE);
        due("nothing happened", seen(x), before);
    }

    private static void fusesOf(int before, int word0, int after, int writes) {
        TwinSlots x = inSlotA("key 1;image 0 0 parts 1;image 0 0 parts 2");
        word(x, A, 0, before + 1);
        due("rollback ahead of it", x.health(NONE), before);
        word(x, A, 0, word0);
        due("health with word 0 " + word0, x.health(NONE), after);
        due("writes", x.count(14), writes);
        due("rollback", x.count(4), after);
    }

    static void fusesTillTheVersion() {
        says(8, "FUSES of versions are blown, one by one, till ROLLBACK is its VERSION at least (or all are)");
        fusesOf(0, 1, 0, 9);
        fusesOf(0, 2, 1, 10);
        fusesOf(5, 5, 5, 9);
        fusesOf(5, 6, 5, 9);
        fusesOf(5, 7, 6, 10);
        fusesOf(0, 31, 30, 39);
        fusesOf(0, 32, 31, 40);
        fusesOf(0, 33, 31, 40);
        fusesOf(30, 31, 30, 9);
        fusesOf(30, 32, 31, 10);
        fusesOf(31, 32, 31, 9);
        fusesOf(31, Integer.MAX_VALUE, 31, 9);
        fusesOf(31, 1, 31, 9);
        fusesOf(5, 0, 5, 9);
        fusesOf(0, 0, 0, 9);
    }

    static void fusesBehindEachCut() {
        says(8, "FUSES of versions are blown, one by one");
        for (int cut = 9; cut < 13; cut++) {
            TwinSlots x = inSlotA();
            due("health cut at " + cut, x.health(cut), POWER_FAILED);
            due("rollback", x.count(4), cut - 9);
            flags(x, A, 15, 3, 1);
            due("health was not told", x.count(17), 0);
        }
    }

    static void fusesOfKeysFromTheLeast() {
        says(8, "then those of KEYS it revokes (by WORD 2) that are not, from the least on");
        String six = "key 1;key 1;key 1;key 1;key 1;key 1;image 0 0 parts 1;image 2 0 parts 1";
        int[] behind = {0, 1, 3, 7, 15, 31};
        for (int cut = 0; cut < 6; cut++) {
            TwinSlots x = inSlotA(six);
            word(x, A, 2, 63);
            due("health", x.health(9 + 2 + cut), POWER_FAILED);
            due("rollback first", x.count(4), 2);
            due("fuses of keys", x.count(5), behind[cut]);
        }
        TwinSlots x = inSlotA(six);
        word(x, A, 2, 63);
        due("health", x.health(9 + 2 + 6), 2);
        due("fuses of keys", x.count(5), 63);
    }

    static void fusesOfKeysOnce() {
        says(8, "that are not, from the least on");
        TwinSlots x = inSlotA("key 1;key 1;key 1;key 1;key 1;key 1;image 0 0 parts 1;image 2 0 parts 1");
        word(x, A, 2, 2 + 8);
        x.health(NONE);
        due("writes", x.count(14), 9 + 2 + 2);
        due("fuses of keys", x.count(5), 10);
        x.health(NONE);
        due("writes when all are blown", x.count(14), 9);
        word(x, A, 2, 1 + 2 + 8 + 32);
        due("cut behind one", x.health(10), POWER_FAILED);
        due("fuses of keys", x.count(5), 11);
        due("what runs", x.boot(true, NONE), NOTHING - 1);
        due("recovery blows none", x.health(NONE), 2);
        due("fuses of keys", x.count(5), 11);
    }

    static void fusesByTheWordsOfWhatRuns() {
        says(8, "of a slot: it is GOOD, its TRIES are tries");
        for (int slot = 0; slot < 2; slot++) {
            TwinSlots x = inRecovery("key 1;key 1;key 1;key 1;key 1;key 1;image 0 0 parts 1;image 2 0 parts 1");
            x.install(slot, 1, NONE);
            x.off();
            due("boot", x.boot(false, NONE), slot);
            word(x, slot, 2, 16);
            word(x, 1 - slot, 2, 15);
            word(x, 1 - slot, 0, 31);
            due("health", x.health(NONE), 2);
            due("fuses of keys", x.count(5), 16);
            flags(x, slot, 15, 3, 1);
            flags(x, 1 - slot, 0, 0, 0);
        }
    }

    static void bitsOfNoKey() {
        says(8, "31 FUSES of versions, 6 of KEYS");
        TwinSlots x = inSlotA("key 1;key 1;key 1;key 1;key 1;key 1;image 0 0 parts 1;image 2 0 parts 1");
        word(x, A, 2, Integer.MAX_VALUE - 63);
        due("health", x.health(NONE), 2);
        due("fuses of keys", x.count(5), 0);
        due("writes", x.count(14), 11);
    }

    static void healthOfRecovery() {
        says(8, "Of RECOVERY: FAILURES are 0; FLAGS are WRITTEN.");
        TwinSlots x = withBoth(THREE_KEYS);
        tellFlags(x, slotByte(15, 1, 0), slotByte(14, 0, 1), 255, A);
        due("boot", x.boot(true, NONE), RECOVERY);
        word(x, 2, 2, 7);
        due("health", x.health(NONE), 0);
        due("writes", x.count(14), 9);
        due("failures", x.count(7), 0);
        due("last stays", x.count(8), RECOVERY);
        due("fuses of keys", x.count(5), 0);
        due("told", x.count(17), 1);
        flags(x, A, 15, 1, 0);
        flags(x, B, 14, 0, 1);
    }

    static void healthOfASlot() {
        says(8, "of a slot: it is GOOD, its TRIES are tries; FAILURES are 0; FLAGS are WRITTEN");
        for (int tries = 1; tries <= 7; tries += 6) {
            TwinSlots x = withBoth(THREE_KEYS + ";tries " + tries);
            tellFlags(x, slotByte(3, 2, 0), slotByte(4, 5, 0), 2, NOTHING);
            due("boot", x.boot(false, NONE), B);
            due("health", x.health(NONE), 6);
            flags(x, B, 4, tries, 1);
            flags(x, A, 3, 2, 0);
            due("failures", x.count(7), 0);
            due("last", x.count(8), B);
        }
    }

    // ---- 9, 13: install and resume

    private static void noInstall(TwinSlots x, int slot, int image) {
        long before = seen(x);
        due("install(" + slot + ", " + image + ")", x.install(slot, image, NONE), NONE);
        due("install(" + slot + ", " + image + ") cut at 0", x.install(slot, image, 0), NONE);
        due("nothing happened", seen(x), before);
    }

    static void installsThatAreNot() {
        says(9, "NONE, and nothing happens, if it cannot be, without these, or for another CUT");
        TwinSlots x = inRecovery();
        noInstall(x, 2, 0);
        noInstall(x, -1, 0);
        noInstall(x, 0, 6);
        noInstall(x, 0, -1);
        for (int n : FAR) {
            due("install", x.install(n, 0, NONE), NONE);
            due("install", x.install(0, n, NONE), NONE);
        }
        due("the last image", x.install(1, 5, NONE), 39);
        due("the first image", x.install(0, 0, NONE), 39);
        x.off();
        noInstall(x, 0, 0);
        noInstall(x, 1, 0);
    }

    static void installIntoWhatRuns() {
        says(9, "INSTALL of an IMAGE into a slot that is not RUNNING (something is)");
        TwinSlots a = withBoth(THREE_KEYS);
        tellFlags(a, slotByte(2, 2, 0), slotByte(1, 2, 0), 0, NOTHING);
        due("boot", a.boot(false, NONE), A);
        noInstall(a, A, 1);
        due("into the other one", a.install(B, 1, NONE), 39);
        TwinSlots b = withBoth(THREE_KEYS);
        tellFlags(b, slotByte(1, 2, 0), slotByte(2, 2, 0), 0, NOTHING);
        due("boot", b.boot(false, NONE), B);
        noInstall(b, B, 1);
        due("into the other one", b.install(A, 1, NONE), 39);
    }

    private static void otherPriority(int priority, int then) {
        TwinSlots x = withBoth(THREE_KEYS + ";tries 5");
        x.boot(true, NONE);
        tellFlags(x, slotByte(priority, 7, 1), slotByte(3, 7, 1), 9, RECOVERY);
        due("install", x.install(B, 3, NONE), 39);
        flags(x, A, then, 7, 1);
        flags(x, B, 15, 5, 0);
        due("failures stay", x.count(7), 9);
        due("last stays", x.count(8), RECOVERY);
        x.undo();
        due("prefer", x.prefer(B, NONE), then);
        flags(x, A, then, 7, 1);
        flags(x, B, 15, 7, 1);
        due("failures stay", x.count(7), 9);
    }

    static void priorityOfTheOtherOne() {
        says(9, "its PRIORITY is 15, TRIES tries, that of the other one 14 at most");
        otherPriority(15, 14);
        otherPriority(14, 14);
        otherPriority(13, 13);
        otherPriority(1, 1);
        otherPriority(0, 0);
    }

    static void journalBehindEachCut() {
        says(9, "byte 2 of the JOURNAL becomes 0, then bytes 0, 1, 3 and 2 are those of the slot and IMAGE, OPEN (5 WRITES)");
        int[] order = {2, 0, 1, 3, 2};
        int[] bytes = {0, B, 4, B + 4 + 90, 90};
        int[] journal = {255, 255, 255, 255};
        for (int cut = 0; cut <= 5; cut++) {
            TwinSlots x = inRecovery();
            due("install cut at " + cut, x.install(B, 4, cut), POWER_FAILED);
            for (int k = 0; k < 4; k++) {
                due("cut at " + cut + ", journal(" + k + ")", x.journal(k), journal[k]);
            }
            due("open", x.count(18), cut == 5 ? 1 : 0);
            if (cut < 5) {
                journal[order[cut]] = bytes[cut];
            }
        }
        TwinSlots y = inRecovery();
        due("install", y.install(B, 4, NONE), 39);
        int[] behind = {B, 4, 0, B + 4 + 90};
        for (int k = 0; k < 4; k++) {
            due("journal(" + k + ") behind it", y.journal(k), behind[k]);
        }
    }

    static void flagsWithinAnInstall() {
        says(9, "PRIORITY, TRIES of its slot become 0, it is not GOOD; FLAGS are WRITTEN; the IMAGE is LAID");
        TwinSlots x = inSlotA();
        x.health(NONE);
        x.install(B, 2, NONE);
        x.off();
        x.boot(true, NONE);
        due("ahead of the first flags", x.install(B, 3, 13), POWER_FAILED);
        flags(x, B, 15, 3, 0);
        due("its words stay", x.why(B), 0);
        x.undo();
        due("behind the first flags", x.install(B, 3, 14), POWER_FAILED);
        flags(x, B, 0, 0, 0);
        flags(x, A, 14, 3, 1);
        due("its words stay", x.why(B), 0);
        x.undo();
        due("behind word 0", x.install(B, 3, 15), POWER_FAILED);
        due("no version", x.word(B, 0), 0);
        due("why", x.why(B), 1);
        x.undo();
        due("behind the last word", x.install(B, 3, 29), POWER_FAILED);
        due("why", x.why(B), 0);
        due("the version", x.word(B, 0), 8);
        flags(x, B, 0, 0, 0);
        x.undo();
        due("ahead of the last byte of the flags", x.install(B, 3, 37), POWER_FAILED);
        flags(x, B, 0, 0, 0);
        x.undo();
        due("behind the flags", x.install(B, 3, 38), POWER_FAILED);
        flags(x, B, 15, 3, 0);
        due("open", x.count(18), 1);
    }

    static void resumesThatAreNot() {
        says(13, "NONE, and nothing happens, if it cannot be, or for another CUT");
        TwinSlots x = inSlotA();
        long before = seen(x);
        due("the journal is not open", x.resume(NONE), NONE);
        due("nothing happened", seen(x), before);
        x.install(B, 2, 5);
        before = seen(x);
        due("nothing runs", x.resume(NONE), NONE);
        due("nothing happened", seen(x), before);
        due("what runs", x.boot(false, NONE), A);
        due("resume", x.resume(NONE), 34);
        before = seen(x);
        due("again", x.resume(NONE), NONE);
        due("nothing happened", seen(x), before);
    }

    static void resumeOfTheSlotThatRuns() {
        says(13, "RESUME (something is RUNNING, not the slot of the JOURNAL, which is OPEN)");
        for (int slot = 0; slot < 2; slot++) {
            TwinSlots x = inRecovery();
            due("install", x.install(slot, 1, 38), POWER_FAILED);
            due("it starts", x.boot(false, NONE), slot);
            long before = seen(x);
            due("resume", x.resume(NONE), NONE);
            due("nothing happened", seen(x), before);
            x.off();
            x.boot(true, NONE);
            due("in recovery", x.resume(NONE), 34);
            due("open", x.count(18), 0);
            flags(x, slot, 15, 3, 0);
        }
        TwinSlots y = inSlotA();
        due("install into the other one", y.install(B, 2, 5), POWER_FAILED);
        due("A starts", y.boot(false, NONE), A);
        due("resume", y.resume(NONE), 34);
    }

    static void resumeBehindEachCut() {
        says(13, "RESUME: how many WRITES");
        for (int cut = 5; cut < 39; cut++) {
            TwinSlots x = inRecovery();
            due("install", x.install(A, 4, cut), POWER_FAILED);
            x.boot(true, NONE);
            due("resume behind " + cut, x.resume(NONE), 34);
            due("why", x.why(A), 0);
            due("its version", x.word(A, 0), 10);
            flags(x, A, 15, 3, 0);
            due("open", x.count(18), 0);
            due("writes", x.count(14), 34);
        }
    }

    // ---- 10 to 12: refresh, prefer, mend

    static void refreshesThatAreNot() {
        says(10, "NONE, and nothing happens, if it cannot be, without that IMAGE, or for another CUT");
        TwinSlots x = inRecovery();
        long before = seen(x);
        due("an image of key 1", x.refresh(2, NONE), NONE);
        due("image 6", x.refresh(6, NONE), NONE);
        due("image -1", x.refresh(-1, NONE), NONE);
        for (int n : FAR) {
            due("image " + n, x.refresh(n, NONE), NONE);
        }
        due("nothing happened", seen(x), before);
        due("the last image", x.refresh(5, NONE), 3);
        x.off();
        before = seen(x);
        due("nothing runs", x.refresh(0, NONE), NONE);
        due("nothing happened", seen(x), before);
    }

    static void copyThatIsRefreshed() {
        says(10, "it is LAID into the copy that would not START (2, if neither can)");
        TwinSlots x = inRecovery();
        makeUnable(x, 3);
        due("3 cannot", x.refresh(1, NONE), 3);
        makeUnable(x, 2);
        due("2 cannot", x.refresh(1, NONE), 2);
        makeUnable(x, 2);
        makeUnable(x, 3);
        due("neither can", x.refresh(0, NONE), 2);
        due("now 2 can", x.refresh(0, NONE), 3);
        due("like ones: 2 would start", x.refresh(1, NONE), 3);
        due("3 would start", x.refresh(0, NONE), 2);
    }

    static void prefersThatAreNot() {
        says(11, "NONE, and nothing happens, if it cannot be, without that slot, or for another CUT");
        TwinSlots x = inRecovery();
        long before = seen(x);
        due("prefer(2)", x.prefer(2, NONE), NONE);
        due("prefer(-1)", x.prefer(-1, NONE), NONE);
        for (int n : FAR) {
            due("prefer(" + n + ")", x.prefer(n, NONE), NONE);
        }
        due("nothing happened", seen(x), before);
        due("prefer(1)", x.prefer(1, NONE), 0);
        x.off();
        before = seen(x);
        due("nothing runs", x.prefer(0, NONE), NONE);
        due("nothing happened", seen(x), before);
    }

    static void preferOfWhatRuns() {
        says(11, "PREFER a slot (something is RUNNING): its PRIORITY is 15, that of the other one 14 at most");
        TwinSlots x = inSlotA();
        due("prefer the one that runs", x.prefer(A, NONE), 0);
        flags(x, A, 15, 2, 0);
        due("prefer the other one", x.prefer(B, NONE), 14);
        flags(x, A, 14, 2, 0);
        flags(x, B, 15, 0, 0);
        due("again", x.prefer(B, NONE), 14);
        due("back", x.prefer(A, NONE), 14);
    }

    static void mendWhenNothingRuns() {
        says(12, "NONE, and nothing happens, if nothing is RUNNING");
        TwinSlots x = inRecovery();
        makeUnable(x, 2);
        x.off();
        long before = seen(x);
        due("mend", x.mend(NONE), NONE);
        due("mend cut at 0", x.mend(0), NONE);
        due("nothing happened", seen(x), before);
    }

    static void mendOfPages() {
        says(12, "is just one PAGE WHOLE, FLAGS are WRITTEN as they are");
        for (int page = 0; page < 2; page++) {
            TwinSlots x = inSlotA();
            bytes(x, 1 - page, 0, 0, 0, 0, 0, 0, 0, 0);
            page(x, page, 255, slotByte(9, 2, 1), slotByte(3, 1, 0), 255, 1);
            due("one page is whole", x.mend(NONE), 1);
            due("the newest", x.count(9), 1 - page);
            due("sequence", x.count(10), 0);
            due("failures", x.count(7), 255);
            due("last", x.count(8), 1);
            flags(x, A, 9, 2, 1);
            flags(x, B, 3, 1, 0);
            due("two pages are", x.mend(NONE), 0);
            bytes(x, 0, 0, 0, 0, 0, 0, 0, 0, 0);
            bytes(x, 1, 0, 0, 0, 0, 0, 0, 0, 0);
            due("no page is", x.mend(NONE), 0);
            due("writes", x.count(14), 0);
        }
    }

    static void mendOfCopies() {
        says(12, "then, can just one copy of RECOVERY start, its WORDS are LAID into the other one");
        for (int copy = 2; copy < 4; copy++) {
            TwinSlots x = inRecovery();
            x.mend(NONE);
            due("both can", x.mend(NONE), 0);
            lay(x, copy, 4);
            due("both can, of two versions", x.mend(NONE), 0);
            makeUnable(x, 5 - copy);
            word(x, copy, 13, 77);
            due("one can", x.mend(NONE), 2);
            for (int k = 0; k < 14; k++) {
                due("word " + k, x.word(5 - copy, k), k == 13 ? 77 : x.image(4, k));
            }
            due("writes", x.count(14), 15);
            makeUnable(x, 2);
            makeUnable(x, 3);
            due("none can", x.mend(NONE), 0);
        }
    }

    static void mendOfBoth() {
        says(12, "MEND: 1 FLAGS were WRITTEN, 2 a copy was LAID, 3 both, 0 neither");
        TwinSlots x = inRecovery();
        makeUnable(x, 2);
        due("cut behind the flags", x.mend(9), POWER_FAILED);
        due("pages", x.whole(0) + x.whole(1), 2);
        due("copy 2", x.why(2), 5);
        x.undo();
        due("cut behind word 0", x.mend(10), POWER_FAILED);
        due("copy 2", x.why(2), 1);
        x.undo();
        due("both", x.mend(NONE), 3);
        due("writes", x.count(14), 24);
        due("neither", x.mend(NONE), 0);
    }

    // ---- 14, 15: ticks and off

    static void waitsThatAreNot() {
        says(14, "WAIT n (1 to 200): how many BOOTS; NONE, and nothing happens, without these, or if nothing is RUNNING");
        TwinSlots x = inRecovery();
        long before = seen(x);
        due("waits(0)", x.waits(0), NONE);
        due("waits(201)", x.waits(201), NONE);
        due("waits(-1)", x.waits(-1), NONE);
        for (int n : FAR) {
            due("waits(" + n + ")", x.waits(n), NONE);
        }
        due("nothing happened", seen(x), before);
        due("waits(1)", x.waits(1), 0);
        due("ticks", x.count(16), 1);
        due("waits(200)", x.waits(200), 0);
        due("ticks", x.count(16), 201);
        x.off();
        before = seen(x);
        due("nothing runs", x.waits(1), NONE);
        due("nothing happened", seen(x), before);
    }

    private static void watched(String text, int watch) {
        TwinSlots x = inSlotA(THREE_KEYS + text);
        due("watch", x.count(15), watch);
        if (watch > 1) {
            due("one less than watch", x.waits(watch - 1), 0);
            due("ticks", x.count(16), watch - 1);
            due("it runs on", x.started(1, 0), RECOVERY);
        }
        due("one more", x.waits(1), 1);
        due("ticks", x.count(16), 0);
        due("a start more", x.started(1, 0), A);
        due("failures", x.count(7), 2);
        due("writes of its boot", x.count(14), 9);
        TwinSlots y = inSlotA(THREE_KEYS + text);
        due("watch at once", y.waits(watch), 1);
        due("ticks", y.count(16), 0);
        TwinSlots z = inSlotA(THREE_KEYS + text);
        due("one more than watch", z.waits(watch + 1), watch == 1 ? 2 : 1);
        due("ticks", z.count(16), watch == 1 ? 0 : 1);
    }

    static void ticksThatComeToWatch() {
        says(14, "is a slot RUNNING without HEALTH since its START, and TICKS come to watch");
        watched("", 20);
        watched(";watch 1", 1);
        watched(";watch 2", 2);
        watched(";watch 99", 99);
    }

    static void healthAheadOfWatch() {
        says(14, "without HEALTH since its START");
        TwinSlots x = inSlotA();
        x.waits(19);
        due("health at the last tick", x.health(NONE), 4);
        due("waits(200)", x.waits(200), 0);
        due("ticks go on", x.count(16), 219);
        x.off();
        x.boot(false, NONE);
        due("a new start", x.waits(19), 0);
        due("is watched anew", x.waits(1), 1);
        TwinSlots y = inSlotA();
        y.waits(19);
        due("a health that is cut", y.health(12), POWER_FAILED);
        y.boot(false, NONE);
        due("ticks", y.count(16), 0);
        due("does not count", y.waits(20), 1);
    }

    static void recoveryIsNotWatched() {
        says(14, "is a slot RUNNING without HEALTH since its START");
        TwinSlots x = inRecovery(THREE_KEYS + ";watch 1");
        due("waits(200)", x.waits(200), 0);
        due("ticks", x.count(16), 200);
        due("it runs", x.count(6), RECOVERY);
        due("waits(200)", x.waits(200), 0);
        due("ticks", x.count(16), 400);
    }

    static void bootsOfOneWait() {
        says(14, "n TICKS, one behind the other");
        TwinSlots x = inSlotA(THREE_KEYS + ";watch 1;limit 9;tries 7");
        due("a boot each tick", x.waits(5), 5);
        flags(x, A, 15, 1, 0);
        due("till no try is left", x.waits(200), 2);
        due("recovery", x.count(6), RECOVERY);
        due("failures", x.count(7), 7);
        due("ticks", x.count(16), 198);
        TwinSlots y = inSlotA(THREE_KEYS + ";watch 99;limit 9;tries 7");
        due("a boot each 99 ticks", y.waits(200), 2);
        due("ticks", y.count(16), 2);
        due("an act", y.undo() >= 0, true);
        due("as ahead of it", y.count(7), 1);
        due("ticks", y.count(16), 0);
    }

    static void waitTillFailuresAreAtLimit() {
        says(14, "FAILURES at limit or above");
        TwinSlots x = inSlotA(THREE_KEYS + ";watch 10;limit 2;tries 7");
        due("failures", x.count(7), 1);
        due("waits(10)", x.waits(10), 1);
        due("A, at limit now", x.count(6), A);
        due("failures", x.count(7), 2);
        due("waits(10)", x.waits(10), 1);
        due("recovery", x.count(6), RECOVERY);
        due("waits(10)", x.waits(10), 0);
    }

    static void waitThatStartsNothing() {
        says(14, "Does it START nothing, no TICK more goes by.");
        TwinSlots x = inSlotA(THREE_KEYS + ";watch 5;limit 1");
        makeUnable(x, 2);
        makeUnable(x, 3);
        due("waits(4)", x.waits(4), 0);
        due("waits(200)", x.waits(200), 1);
        due("it is off", x.count(6), NONE);
        due("ticks are 0 then", x.count(16), 0);
        due("no write", x.count(14), 0);
        due("waits(1)", x.waits(1), NONE);
        due("no start more", x.started(0, 0), A);
        due("undone at once", x.undo() >= 0, true);
        due("ticks", x.count(16), 4);
    }

    static void ticksAboveWatch() {
        says(14, "and TICKS come to watch");
        TwinSlots x = inSlotA(THREE_KEYS + ";watch 9");
        due("waits(8)", x.waits(8), 0);
        tell(x, THREE_KEYS + ";watch 10");
        due("watch is 10 now", x.waits(1), 0);
        tell(x, THREE_KEYS + ";watch 2");
        due("watch is 2 now", x.waits(1), 1);
        due("ticks", x.count(16), 0);
    }

    static void offWhenNothingRuns() {
        says(15, "OFF: true; false, and nothing happens, if nothing is RUNNING.");
        TwinSlots x = new TwinSlots();
        long before = seen(x);
        due("off", x.off(), false);
        due("nothing happened", seen(x), before);
        TwinSlots y = inSlotA();
        y.waits(7);
        due("off", y.off(), true);
        before = seen(y);
        due("off again", y.off(), false);
        due("nothing happened", seen(y), before);
        due("ticks since the latest start", y.count(16), 7);
        due("last", y.count(8), A);
        due("failures", y.count(7), 1);
    }

    // ---- 18: acts undone

    static void undoOfNone() {
        says(18, "NONE, and nothing happens, if none can");
        TwinSlots x = new TwinSlots();
        long before = seen(x);
        due("undo()", x.undo(), NONE);
        due("undo()", x.undo(), NONE);
        due("nothing happened", seen(x), before);
        x.blot(0, 0, 0);
        due("one can", x.undo(), 0);
        due("none more", x.undo(), NONE);
        due("as at first", seen(x), before);
    }

    static void undoOfTwelve() {
        says(18, "The last 12 can be UNDONE, the last first");
        for (int acts = 11; acts <= 14; acts++) {
            TwinSlots x = new TwinSlots();
            for (int n = 0; n < acts; n++) {
                due("flip", x.flip(n % 4, n / 4, n), 1 << n);
            }
            int can = Math.min(acts, 12);
            due("acts of " + acts, x.count(11), can);
            for (int n = 1; n <= can; n++) {
                due("undo()", x.undo(), can - n);
                due("acts", x.count(11), can - n);
                int undone = acts - n;
                due("the last first", x.word(undone % 4, undone / 4), 0);
                int before = undone - 1;
                if (before >= 0) {
                    due("the one ahead stands", x.word(before % 4, before / 4), 1 << before);
                }
            }
            due("none more", x.undo(), NONE);
            due("the first of 13 stays", x.word(0, 0), acts > 12 ? 1 : 0);
            due("the second of 14 stays", x.word(1, 0), acts > 13 ? 2 : 0);
        }
    }

    static void actsBehindUndo() {
        says(18, "The last ACT is UNDONE: how many more can be");
        TwinSlots x = new TwinSlots();
        for (int n = 0; n < 20; n++) {
            x.flip(0, n % 14, n);
            x.flip(1, n % 14, n);
            due("undo()", x.undo(), Math.min(n + 1, 11));
            due("undone", x.word(1, n % 14), 0);
        }
        x.flip(2, 0, 0);
        due("12 again", x.count(11), 12);
    }

    static void eachActIsUndone() {
        says(18, "all is as ahead of it");
        for (int act = 0; act < 14; act++) {
            TwinSlots x = ableTo(act == 6 ? 6 : 1);
            if (act == 0 || act == 7 || act == 12) {
                x.off();
            }
            if (act == 5) {
                makeUnable(x, 3);
            }
            long before = seen(x);
            int acts = x.count(11);
            switch (act) {
                case 7 -> due("factory", x.factory(1), true);
                case 8 -> due("waits", x.waits(200) > 0, true);
                case 9 -> due("off", x.off(), true);
                case 10 -> x.flip(3, 13, 30);
                case 11 -> x.blot(1, 7, 7);
                case 12 -> due("boot", x.boot(true, 3), POWER_FAILED);
                case 13 -> due("health", x.health(11), POWER_FAILED);
                default -> due("deed " + act, perform(x, act, NONE) >= 0, true);
            }
            due("act " + act + " did something", seen(x) != before, true);
            due("undo() of act " + act, x.undo(), acts);
            due("as ahead of act " + act, seen(x), before);
        }
    }

    static void actsThatChangeNothing() {
        says(18, "ACTS: FACTORY (the machine is OFF: both copies of RECOVERY have the WORDS of an IMAGE of KEY 0), BOOT, HEALTH");
        TwinSlots x = new TwinSlots();
        due("a boot that starts nothing", x.boot(false, NONE), NOTHING);
        due("acts", x.count(11), 1);
        TwinSlots y = inRecovery();
        y.mend(NONE);
        int acts = y.count(11);
        due("a mend of nothing", y.mend(NONE), 0);
        due("acts", y.count(11), acts + 1);
        due("undo()", y.undo(), acts);
        due("writes as ahead of it", y.count(14), 9);
        y.off();
        due("the same factory", y.factory(0), true);
        due("acts", y.count(11), acts + 2);
    }

    static void whatIsNoAct() {
        says(18, "all is as ahead of it (not x, the BUNDLE, the TAPE)");
        TwinSlots x = inRecovery();
        int acts = x.count(11);
        x.feed(1, 2, 3, 4, 5);
        x.end(7);
        x.draws(99);
        tell(x, "x");
        x.feed(1, 2, 3, 4, 5);
        due("acts", x.count(11), acts);
        due("undo()", x.undo(), acts - 1);
        due("x stays", x.count(12), 99);
        due("the tape stays", x.count(13), 20);
        due("the bundle stays", x.count(1), 6);
        due("the boot is undone", x.count(6), NONE);
        TwinSlots y = inRecovery();
        tell(y, "key 5");
        due("undo() behind a bundle", y.undo(), NONE);
        due("it runs", y.count(6), RECOVERY);
        y.flip(0, 0, 0);
        due("undo()", y.undo(), 0);
        due("the new bundle stays", y.count(1), 0);
    }

    static void startsAreUndone() {
        says(18, "all is as ahead of it");
        TwinSlots x = inSlotA();
        for (int n = 0; n < 12; n++) {
            x.off();
            x.boot(true, NONE);
        }
        due("A is forgotten", x.started(11, 0), RECOVERY);
        x.undo();
        due("A is there again", x.started(11, 0), A);
        for (int n = 0; n < 11; n++) {
            x.undo();
        }
        due("undo()", x.undo(), NONE);
        due("started(6, 0)", x.started(6, 0), A);
        due("started(7, 0)", x.started(7, 0), RECOVERY);
        due("started(8, 0)", x.started(8, 0), NONE);
    }
}
