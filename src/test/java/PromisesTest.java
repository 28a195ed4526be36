/** For each promise of the document: ordinary calls, the edges that it names, and wrong inputs. */
public final class PromisesTest extends Checks {
    private static final String TWO_KEYS = "key 5;key 7 under 0;image 2 1 parts 10;image 3 0 revokes 1 parts 7 8;"
        + "image 0 0 parts 7;limit 2;tries 1";

    public static void main(String[] args) {
        newObject();
        tape();
        faults();
        images();
        factories();
        boots();
        bootsThatFall();
        bootsByFailures();
        bootsOfTurnedPages();
        healths();
        fuses();
        installs();
        installsThatAreCut();
        refreshes();
        prefers();
        mends();
        resumes();
        ticks();
        offs();
        bits();
        undos();
        store();
        revocation();
        pages();
        reasons();
        nexts();
        cutsOfDeeds();
        twos();
        lasting();
        slacks();
        frailties();
        routes();
        routesLost();
        draws();
        lives();
        starts();
        leasts();
        counts();
        System.out.println("PromisesTest: " + wrong + " wrong");
        if (wrong > 0) {
            System.exit(1);
        }
    }

    // ---- helps

    /** Both slots can start (version 4 in A, 6 in B), the machine is off, page 0 is cleared. */
    private static TwinSlots withBoth() {
        TwinSlots x = inSlotA();
        x.install(B, 2, NONE);
        x.off();
        page(x, 0, 0, 0, 0, 0, 0);
        x.blot(0, 0, 0);
        return x;
    }

    // ---- 1 to 5

    private static void newObject() {
        promise(1);
        TwinSlots x = new TwinSlots();
        int[] counts = {0, 0, 3, 3, 0, 0, NONE, 0, 3, NONE, NONE, 0, 0, 0, 0, 20, 0, 0, 0, NONE};
        for (int what = 0; what < counts.length; what++) {
            due("count(" + what + ")", x.count(what), counts[what]);
        }
        due("image(0, 0)", x.image(0, 0), NONE);
        due("revoked(0)", x.revoked(0), NONE);
        for (int k = 0; k < 14; k++) {
            due("word", x.word(A, k) + x.word(B, k) + x.word(2, k) + x.word(3, k), 0);
        }
        for (int k = 0; k < 8; k++) {
            due("octet", x.octet(0, k) + x.octet(1, k), 510);
        }
        due("the constant", TwinSlots.NONE, -1);
    }

    private static void tape() {
        promise(2);
        TwinSlots x = new TwinSlots();
        for (int n = 20; n <= 300; n += 20) {
            due("feed", x.feed(0x6b657920, 0x31202020, 0x20202020, 0x20202020, 0x20202020), n);
        }
        due("feed beyond 300", x.feed(0, 0, 0, 0, 0), NONE);
        due("count(13)", x.count(13), 300);
        due("end(281)", x.end(281), 281);
        due("feed beyond 300", x.feed(0, 0, 0, 0, 0), NONE);
        due("end(280)", x.end(280), 280);
        due("feed", x.feed(0, 0, 0, 0, 0), 300);
        due("end(20)", x.end(20), 20);
        due("bundle()", x.bundle(), 1);
        // The bytes of a number below 0: the highest is 0xeb, of which no part may spill.
        x.feed(0x6b657920, 0x313bffff, 0xffffffff, 0, 0);
        due("bundle()", x.bundle(), -2 - (8 * 6 + 1));
        // Twenty bytes in their order: a fault behind each cut tells where the text stood wrong.
        x.feed(0x6c696d69, 0x74203920, 0x20202020, 0x20202020, 0x20202039);
        due("bundle()", x.bundle(), -2 - (8 * 19 + 1));

        promise(3);
        TwinSlots y = new TwinSlots();
        due("end(1)", y.end(1), NONE);
        due("end(0)", y.end(0), 0);
        y.feed(0x6b657920, 0x31303030, 0x30, 0, 0);
        due("end(21)", y.end(21), NONE);
        due("end(-1)", y.end(-1), NONE);
        due("count(13)", y.count(13), 20);
        due("end(8)", y.end(8), 8);
        due("count(13)", y.count(13), 8);
        due("end(9)", y.end(9), NONE);
        due("bundle() of key 1000", y.bundle(), 1);
        due("count(13)", y.count(13), 0);
    }

    private static void faults() {
        promise(4);
        lines("key 0", 1);
        lines("  key  9999  ", 1);
        lines("key1;key2under0;image3 1parts4", 3);
        lines("key 1;image 0 0 revokes 0,0 , 0,0 parts 0 99999 1 2", 2);
        lines("limit 1;tries 1;watch 1", 3);
        lines("limit 9;tries 7;watch 99", 3);
        lines("key 0000000000000000001", 1);
        fault("", 0, 1);
        fault("   ", 3, 1);
        fault("key", 3, 1);
        fault("key ", 4, 1);
        fault("keys 1", 0, 1);
        fault("ke", 0, 1);
        fault("keyz 1", 0, 1);
        fault("keya 1", 0, 1);
        lines("key`1".replace('`', ' '), 1);
        fault("key`1", 3, 1);
        fault("key{1", 3, 1);
        fault("key /", 4, 1);
        fault("key :", 4, 1);
        fault("Key 1", 0, 1);
        fault(" 1", 1, 1);
        fault(";key 1", 0, 1);
        fault("key 1;", 6, 1);
        fault("key 1; ", 7, 1);
        fault("key 1,", 5, 1);
        fault("key 1 2", 6, 1);
        fault("key 1 undr 0", 6, 1);
        fault("key 10000", 4, 2);
        fault("key 4294967297", 4, 2);
        fault("key 99999999999999999999", 4, 2);
        fault("key -1", 4, 1);
        fault("key 1 under", 11, 1);
        fault("key 1 under 0", 12, 2);
        fault("key 1;key 1 under 1", 18, 2);
        fault("key 1;key 1 under 0 0", 20, 1);
        fault("key 1;key 1;key 1;key 1;key 1;key 1; key x", 37, 3);
        fault("image 1 0 parts 1", 8, 2);
        fault("key 1;image 31 0 parts 1", 12, 2);
        fault("key 1;image 30 1 parts 1", 15, 2);
        fault("key 1;image 30 0", 16, 1);
        fault("key 1;image 30 0 1", 17, 1);
        fault("key 1;image 30 0 part 1", 17, 1);
        fault("key 1;image 30 0 partss 1", 17, 1);
        fault("key 1;image 30 0 parts", 22, 1);
        fault("key 1;image 30 0 parts;", 22, 1);
        fault("key 1;image 30 0 parts 100000", 23, 2);
        fault("key 1;image 30 0 parts 1,2", 24, 1);
        fault("key 1;image 30 0 parts 1 2 3 4 5", 31, 4);
        fault("key 1;image 30 0 parts 1 2 3 4 100000", 31, 2);
        fault("key 1;image 30 0 revokes parts 1", 25, 1);
        fault("key 1;image 30 0 revokes 1 parts 1", 25, 2);
        fault("key 1;image 30 0 revokes 0, parts 1", 28, 1);
        fault("key 1;image 30 0 revokes 0 0 parts 1", 27, 1);
        fault("key 1;image 30 0 revokes 0,0,0,0,0 parts 1", 33, 4);
        fault("key 1;image 30 0 revokes 0,0,0,0,1 parts 1", 33, 2);
        fault("key 1;image 30 0 revokes 0,0,0,0, parts 1", 34, 1);
        fault("key 1;image 0 0 parts 1;image 0 0 parts 1;image 0 0 parts 1;image 0 0 parts 1;image 0 0 parts 1;"
            + "image 0 0 parts 1;image 99 0 parts 1", 114, 3);
        fault("limit 0", 6, 2);
        fault("limit 10", 6, 2);
        fault("tries 0", 6, 2);
        fault("tries 8", 6, 2);
        fault("watch 0", 6, 2);
        fault("watch 100", 6, 2);
        fault("limit 1;limit x", 8, 3);
        fault("tries 1;tries 1", 8, 3);
        fault("watch 1;limit 1; watch 1", 17, 3);
        fault("key " + (char) 200, 4, 1);
        bundles();
    }

    private static void bundles() {
        TwinSlots x = inSlotA();
        x.draws(77);
        due("bundle()", tell(x, "key 9;watch 3"), 2);
        due("keys", x.count(0), 1);
        due("images", x.count(1), 0);
        due("limit of the new one", x.count(2), 3);
        due("watch", x.count(15), 3);
        due("the tape is empty", x.count(13), 0);
        due("nothing can be undone", x.count(11), 0);
        due("undo()", x.undo(), NONE);
        due("it runs on", x.count(6), A);
        due("x", x.count(12), 77);
        due("starts", x.started(0, 1), 4);
        due("word", x.word(A, 0), 5);
        due("why", x.why(A), 2);
        x.off();
        due("bundle() at fault", tell(x, "key 1;key 1;watch 0"), -2 - (8 * 18 + 2));
        due("keys", x.count(0), 1);
        due("watch", x.count(15), 3);
        due("acts", x.count(11), 1);
        due("the tape is empty", x.count(13), 0);
        tell(x, "key 9;limit 9;tries 7");
        due("limit", x.count(2), 9);
        due("tries", x.count(3), 7);
        due("watch again 20", x.count(15), 20);
    }

    private static void images() {
        promise(5);
        TwinSlots x = told("key 0;key 9999;image 30 0 parts 99999;image 0 1 revokes 1,0,1 parts 1 2 3 4");
        int[] words = {31, 0, 0, 1, 36114, 21033, 99999, 0, 0, 0, 0, 0, 0, 0};
        for (int k = 0; k < 14; k++) {
            due("image(0, " + k + ")", x.image(0, k), words[k]);
        }
        due("image(1, 0)", x.image(1, 0), 1);
        due("image(1, 1)", x.image(1, 1), 1);
        due("image(1, 2)", x.image(1, 2), 3);
        due("image(1, 3)", x.image(1, 3), 4);
        // From the last part on: 531 * 31, then (530 * 31 + it), and so on, of 65536 the rest.
        int d = 531 * 31 % 65536;
        due("image(1, 13)", x.image(1, 13), 0);
        due("image(1, 12)", x.image(1, 12), 4);
        due("image(1, 11)", x.image(1, 11), d);
        d = (530 * 31 + d) % 65536;
        due("image(1, 9)", x.image(1, 9), d);
        d = (529 * 31 + d) % 65536;
        due("image(1, 7)", x.image(1, 7), d);
        d = (528 * 31 + d) % 65536;
        due("image(1, 4)", x.image(1, 4), d);
        due("image(2, 0)", x.image(2, 0), NONE);
        due("image(-1, 0)", x.image(-1, 0), NONE);
        due("image(0, -1)", x.image(0, -1), NONE);
        due("image(0, 14)", x.image(0, 14), NONE);
    }

    // ---- 6, 7: factory and boot

    private static void factories() {
        promise(6);
        TwinSlots x = told(TWO_KEYS);
        long before = seen(x);
        due("factory of key 1", x.factory(0), false);
        due("factory(3)", x.factory(3), false);
        due("factory(-1)", x.factory(-1), false);
        due("nothing happened", seen(x), before);
        due("factory(2)", x.factory(2), true);
        due("acts", x.count(11), 1);
        for (int k = 0; k < 14; k++) {
            due("word(2, " + k + ")", x.word(2, k), x.image(2, k));
            due("word(3, " + k + ")", x.word(3, k), x.image(2, k));
        }
        due("no deed", x.count(14), 0);
        due("word(0, 0)", x.word(0, 0), 0);
        x.boot(true, NONE);
        before = seen(x);
        due("factory while it runs", x.factory(2), false);
        due("nothing happened", seen(x), before);
    }

    private static void boots() {
        promise(7);
        TwinSlots x = new TwinSlots();
        due("boot of an empty store", x.boot(false, NONE), NOTHING);
        due("acts", x.count(11), 1);
        due("boot cut at 0 of no writes", x.boot(true, 0), NOTHING);
        long before = seen(x);
        due("boot(false, -2)", x.boot(false, -2), NONE);
        due("nothing happened", seen(x), before);

        TwinSlots y = told(THREE_KEYS);
        y.factory(0);
        due("cut at 0", y.boot(false, 0), -2);
        due("writes", y.count(14), 0);
        due("a page untouched", y.octet(0, 0), 255);
        due("cut at 3", y.boot(false, 3), -2);
        due("writes", y.count(14), 3);
        due("byte 0", y.octet(0, 0), 165);
        due("byte 1", y.octet(0, 1), 0);
        due("byte 2", y.octet(0, 2), 255);
        due("it is off", y.count(6), NONE);
        due("no start", y.started(0, 0), NONE);
        due("cut at 8", y.boot(false, 8), -2);
        due("not whole", y.whole(0), 0);
        due("cut at 9 of 9", y.boot(false, 9), RECOVERY);
        due("whole", y.whole(0), 1);
        due("last", y.count(8), 2);
        due("failures", y.count(7), 0);
        due("boot while it runs", y.boot(false, NONE), NONE);
        due("it runs", y.count(6), RECOVERY);

        TwinSlots z = inSlotA();
        flags(z, A, 15, 2, 0);
        due("failures", z.count(7), 1);
        due("last", z.count(8), A);
        due("ticks", z.count(16), 0);
        z.health(NONE);
        z.off();
        due("a good slot", z.boot(false, NONE), A);
        flags(z, A, 15, 3, 1);
        z.off();
        due("with the button", z.boot(true, NONE), RECOVERY);
        due("failures stay", z.count(7), 1);
    }

    private static void bootsThatFall() {
        promise(7);
        TwinSlots x = inSlotA();
        x.install(B, 2, NONE);
        x.off();
        x.flip(B, 6, 0);
        due("why(B)", x.why(B), 5);
        due("B falls, then A", x.boot(false, NONE), A);
        due("two pages of writes", x.count(14), 18);
        flags(x, B, 0, 0, 0);
        flags(x, A, 14, 1, 0);
        x.off();
        x.prefer(B, NONE);
        x.flip(A, 6, 0);
        due("prefer when off", x.flag(B, 0), 0);
        due("A falls, then recovery", x.boot(false, NONE), RECOVERY);
        due("writes", x.count(14), 18);
        flags(x, A, 0, 0, 0);

        TwinSlots y = inSlotA();
        y.install(B, 2, NONE);
        y.off();
        y.flip(A, 6, 0);
        y.flip(B, 6, 0);
        y.flip(2, 6, 0);
        y.flip(3, 6, 0);
        due("cut in the second fall", y.boot(false, 10), -2);
        flags(y, B, 0, 0, 0);
        flags(y, A, 14, 2, 0);
        due("nothing starts", y.boot(false, NONE), NOTHING);
        due("writes", y.count(14), 9);
        flags(y, A, 0, 0, 0);
        due("last stays", y.count(8), A);

        // Of like priorities A; one without tries that is not good is out of the choice.
        TwinSlots z = inSlotA();
        z.health(NONE);
        z.install(B, 2, NONE);
        z.prefer(A, NONE);
        z.off();
        due("15 is above 14", z.boot(false, NONE), A);
        z.off();
        z.undo();
        z.prefer(B, NONE);
        z.off();
        for (int n = 0; n < 2; n++) {
            z.boot(false, NONE);
            z.health(NONE);
            z.off();
        }
        due("B is good by now", z.flag(B, 2), 1);
        due("B", z.boot(false, NONE), B);
    }

    private static void bootsByFailures() {
        promise(7);
        TwinSlots x = told(TWO_KEYS);
        x.factory(2);
        x.boot(false, NONE);
        x.install(A, 0, NONE);
        x.off();
        due("one try", x.boot(false, NONE), A);
        x.off();
        due("no try is left", x.boot(false, NONE), RECOVERY);
        x.off();
        x.boot(true, NONE);
        x.install(A, 0, NONE);
        x.off();
        x.boot(false, NONE);
        due("failures", x.count(7), 2);
        x.off();
        x.boot(false, NONE);
        x.install(A, 0, NONE);
        x.off();
        due("at limit", x.boot(false, NONE), RECOVERY);
        flags(x, A, 15, 1, 0);
        x.health(NONE);
        due("failures", x.count(7), 0);
        x.off();
        due("below limit", x.boot(false, NONE), A);
        // Versions of recovery: the copy with the greater one, 2 of like ones.
        TwinSlots y = told(TWO_KEYS);
        y.factory(2);
        y.boot(true, NONE);
        due("refresh", y.refresh(1, NONE), 3);
        y.off();
        y.boot(true, NONE);
        due("version of copy 3", y.started(0, 1), 3);
        due("copy 2 would not start", y.refresh(1, NONE), 2);
        due("of like ones 2", y.refresh(2, NONE), 3);
        y.flip(2, 5, 0);
        y.off();
        y.boot(false, NONE);
        due("version of copy 3", y.started(0, 1), 0);
    }

    private static void bootOf(int a, int b, int failures, int last, int due) {
        TwinSlots x = withBoth();
        page(x, 1, 9, a, b, failures, last);
        due("count(8)", x.count(8), last);
        due("count(7)", x.count(7), failures);
        due("next of " + a + ", " + b, x.next(false), due);
        due("boot of " + a + ", " + b, x.boot(false, NONE), due);
        due("failures", x.count(7), due < 2 ? failures + 1 : failures);
        int of = due == A ? a : b;
        if (due < 2) {
            flags(x, due, of >> 4, (of >> 1 & 7) - 1 + (of & 1), of & 1);
        }
    }

    private static void bootsOfTurnedPages() {
        promise(7);
        int oneTry = 2;
        bootOf(7 * 16 + oneTry, 7 * 16 + oneTry, 0, 0, A);
        bootOf(7 * 16 + oneTry, 7 * 16 + 14 + 1, 0, 0, A);
        bootOf(7 * 16 + oneTry, 8 * 16 + oneTry, 0, 0, B);
        bootOf(8 * 16, 7 * 16 + 1, 0, 0, B);
        bootOf(16 + 1, 0, 0, 0, A);
        bootOf(16 + oneTry, 14 + 1, 0, 0, A);
        bootOf(14 + 1, 14 + 1, 0, 0, RECOVERY);
        bootOf(15 * 16, 15 * 16, 0, 0, RECOVERY);
        bootOf(255, 255, 2, 0, A);
        bootOf(255, 255, 3, 0, RECOVERY);
        bootOf(255, 255, 255, 255, RECOVERY);
        // What a page says of LAST beyond 3 is written again as it is.
        TwinSlots x = withBoth();
        x.boot(true, NONE);
        page(x, 0, 8, 255, 255, 255, 200);
        page(x, 1, 9, 254, 1, 254, 201);
        due("last", x.count(8), 201);
        due("prefer", x.prefer(B, NONE), 14);
        due("last", x.count(8), 201);
        flags(x, A, 14, 7, 0);
        flags(x, B, 15, 0, 1);
        due("failures", x.count(7), 254);
        due("health", x.health(NONE), 0);
        due("failures", x.count(7), 0);
        due("last", x.count(8), 201);
    }

    // ---- 8: health

    private static void healths() {
        promise(8);
        TwinSlots x = new TwinSlots();
        due("nothing runs", x.health(NONE), NONE);
        TwinSlots y = inSlotA();
        long before = seen(y);
        due("health(-2)", y.health(-2), NONE);
        due("nothing happened", seen(y), before);
        due("health", y.health(NONE), 4);
        due("writes", y.count(14), 13);
        flags(y, A, 15, 3, 1);
        due("failures", y.count(7), 0);
        due("told", y.count(17), 1);
        due("rollback", y.count(4), 4);
        due("again", y.health(NONE), 4);
        due("writes", y.count(14), 9);

        TwinSlots z = inSlotA();
        due("cut among the fuses", z.health(11), -2);
        due("rollback", z.count(4), 2);
        flags(z, A, 15, 3, 1);
        due("told, but cut", z.count(17), 0);
        due("off", z.count(6), NONE);
        due("writes", z.count(14), 11);
        z.undo();
        due("cut ahead of byte 7", z.health(8), -2);
        flags(z, A, 15, 2, 0);
        due("rollback", z.count(4), 0);

        TwinSlots r = inRecovery();
        r.install(A, 1, NONE);
        r.off();
        r.boot(false, NONE);
        r.off();
        r.boot(true, NONE);
        due("failures", r.count(7), 1);
        due("health of recovery", r.health(NONE), 0);
        due("failures", r.count(7), 0);
        flags(r, A, 15, 2, 0);
        due("told", r.count(17), 1);
        due("writes", r.count(14), 9);
    }

    private static void fuses() {
        promise(8);
        TwinSlots x = inRecovery();
        x.install(A, 5, NONE);
        x.off();
        x.boot(false, NONE);
        due("cut behind one key", x.health(9 + 9 + 1), -2);
        due("the least first", x.count(5), 2);
        due("rollback", x.count(4), 9);
        x.boot(false, NONE);
        due("the rest", x.health(NONE), 9);
        due("writes", x.count(14), 10);
        due("keys", x.count(5), 6);
        // A slot whose words are turned while it runs: by its version all fuses are blown, none by -1.
        x.flip(A, 0, 30);
        due("all fuses", x.health(NONE), 31);
        due("writes", x.count(14), 9 + 22);
        // Six keys have fuses, whether or not the bundle has them all.
        x.flip(A, 2, 5);
        x.flip(A, 2, 6);
        due("health", x.health(NONE), 31);
        due("keys", x.count(5), 32 + 6);
        due("writes", x.count(14), 10);
        TwinSlots y = inSlotA();
        y.flip(A, 0, 0);
        y.flip(A, 0, 2);
        due("word 0 is 0", y.word(A, 0), 0);
        due("no fuse", y.health(NONE), 0);
        due("writes", y.count(14), 9);
    }

    // ---- 9: install

    private static void installs() {
        promise(9);
        TwinSlots x = told(THREE_KEYS);
        x.factory(0);
        due("nothing runs", x.install(A, 1, NONE), NONE);
        x.boot(false, NONE);
        long before = seen(x);
        due("slot 2", x.install(2, 1, NONE), NONE);
        due("slot -1", x.install(-1, 1, NONE), NONE);
        due("image 6", x.install(A, 6, NONE), NONE);
        due("image -1", x.install(A, -1, NONE), NONE);
        due("cut -2", x.install(A, 1, -2), NONE);
        due("nothing happened", seen(x), before);
        due("install", x.install(B, 4, NONE), 39);
        due("writes", x.count(14), 39);
        flags(x, B, 15, 3, 0);
        flags(x, A, 0, 0, 0);
        for (int k = 0; k < 14; k++) {
            due("word(B, " + k + ")", x.word(B, k), x.image(4, k));
        }
        due("journal(0)", x.journal(0), 1);
        due("journal(1)", x.journal(1), 4);
        due("journal(2)", x.journal(2), 0);
        due("journal(3)", x.journal(3), 95);
        due("install", x.install(A, 1, NONE), 39);
        flags(x, B, 14, 3, 0);
        flags(x, A, 15, 3, 0);
        x.off();
        x.boot(false, NONE);
        before = seen(x);
        due("into what runs", x.install(A, 1, NONE), NONE);
        due("nothing happened", seen(x), before);
        due("into the other", x.install(B, 2, NONE), 39);
        flags(x, A, 14, 2, 0);
        due("again", x.install(B, 2, NONE), 39);
        flags(x, A, 14, 2, 0);
    }

    private static void installsThatAreCut() {
        promise(9);
        int[] journal = {255, 255, 255, 255};
        int[] order = {2, 0, 1, 3, 2};
        int[] bytes = {0, 1, 2, 93, 90};
        for (int cut = 0; cut <= 5; cut++) {
            TwinSlots x = inSlotA();
            // The journal as the install of slot A left it.
            journal[0] = 0;
            journal[1] = 1;
            journal[2] = 0;
            journal[3] = 91;
            for (int n = 0; n < cut; n++) {
                journal[order[n]] = bytes[n];
            }
            due("install cut at " + cut, x.install(B, 2, cut), -2);
            for (int k = 0; k < 4; k++) {
                due("cut at " + cut + ", journal(" + k + ")", x.journal(k), journal[k]);
            }
            due("open", x.count(18), cut == 5 ? 1 : 0);
            due("off", x.count(6), NONE);
        }
        TwinSlots y = inSlotA();
        due("cut when half laid", y.install(B, 2, 5 + 9 + 3), -2);
        due("word 0", y.word(B, 0), 0);
        due("word 5", y.word(B, 5), 0);
        y.undo();
        due("cut ahead of word 0", y.install(B, 2, 5 + 9 + 14), -2);
        due("word 0", y.word(B, 0), 0);
        due("word 1", y.word(B, 1), 1);
        due("word 5", y.word(B, 5), y.image(2, 5));
        due("why", y.why(B), 1);
        flags(y, B, 0, 0, 0);
        y.undo();
        due("cut behind word 0", y.install(B, 2, 5 + 9 + 15), -2);
        due("word 0", y.word(B, 0), 7);
        due("why", y.why(B), 0);
        flags(y, B, 0, 0, 0);
        y.undo();
        due("cut ahead of the last", y.install(B, 2, 38), -2);
        flags(y, B, 15, 3, 0);
        flags(y, A, 14, 2, 0);
        due("open", y.count(18), 1);
        y.undo();
        due("cut at 39 of 39", y.install(B, 2, 39), 39);
    }

    // ---- 10 to 13

    private static void refreshes() {
        promise(10);
        TwinSlots x = told(THREE_KEYS);
        x.factory(0);
        due("nothing runs", x.refresh(1, NONE), NONE);
        x.boot(false, NONE);
        long before = seen(x);
        due("an image of key 1", x.refresh(2, NONE), NONE);
        due("image 6", x.refresh(6, NONE), NONE);
        due("image -1", x.refresh(-1, NONE), NONE);
        due("cut -2", x.refresh(1, -2), NONE);
        due("nothing happened", seen(x), before);
        due("of like copies 3", x.refresh(1, NONE), 3);
        due("writes", x.count(14), 15);
        for (int k = 0; k < 14; k++) {
            due("word(3, " + k + ")", x.word(3, k), x.image(1, k));
        }
        due("now 2", x.refresh(4, 0), -2);
        due("word(2, 0)", x.word(2, 0), 1);
        x.boot(true, NONE);
        due("cut behind one", x.refresh(4, 1), -2);
        due("word(2, 0)", x.word(2, 0), 0);
        x.boot(true, NONE);
        due("3 starts", x.started(0, 1), 4);
        due("2 then", x.refresh(4, NONE), 2);
        due("3 then", x.refresh(1, NONE), 3);
        x.flip(2, 5, 3);
        x.flip(3, 5, 3);
        due("2, if neither can", x.refresh(0, NONE), 2);
        due("then 3", x.refresh(0, NONE), 3);
    }

    private static void prefers() {
        promise(11);
        TwinSlots x = told(THREE_KEYS);
        x.factory(0);
        due("nothing runs", x.prefer(A, NONE), NONE);
        x.boot(false, NONE);
        long before = seen(x);
        due("slot 2", x.prefer(2, NONE), NONE);
        due("slot -1", x.prefer(-1, NONE), NONE);
        due("cut -2", x.prefer(A, -2), NONE);
        due("nothing happened", seen(x), before);
        due("prefer B", x.prefer(B, NONE), 0);
        flags(x, B, 15, 0, 0);
        due("prefer A", x.prefer(A, NONE), 14);
        flags(x, B, 14, 0, 0);
        flags(x, A, 15, 0, 0);
        due("writes", x.count(14), 9);
        due("cut", x.prefer(B, 8), -2);
        flags(x, A, 15, 0, 0);
        due("off", x.count(6), NONE);
        TwinSlots y = inSlotA();
        due("what runs, too", y.prefer(A, NONE), 0);
        flags(y, A, 15, 2, 0);
        due("the other one", y.prefer(B, NONE), 14);
        flags(y, A, 14, 2, 0);
        due("last stays", y.count(8), A);
        due("failures stay", y.count(7), 1);
    }

    private static void mends() {
        promise(12);
        TwinSlots x = told(THREE_KEYS);
        x.factory(0);
        due("nothing runs", x.mend(NONE), NONE);
        x.boot(false, NONE);
        long before = seen(x);
        due("cut -2", x.mend(-2), NONE);
        due("nothing happened", seen(x), before);
        due("one page", x.mend(NONE), 1);
        due("writes", x.count(14), 9);
        due("page 1", x.octet(1, 1), 1);
        due("last as it was", x.octet(1, 5), 2);
        due("both stand", x.mend(NONE), 0);
        due("writes", x.count(14), 0);
        x.flip(2, 6, 1);
        due("a copy", x.mend(NONE), 2);
        due("writes", x.count(14), 15);
        due("word(2, 6)", x.word(2, 6), 1);
        x.flip(3, 0, 1);
        x.blot(1, 0, 7);
        due("both", x.mend(NONE), 3);
        due("writes", x.count(14), 24);
        due("why(3)", x.why(3), 0);
        x.blot(0, 0, 7);
        x.blot(1, 0, 7);
        due("no page is whole", x.mend(NONE), 0);
        x.flip(2, 5, 1);
        x.flip(3, 5, 1);
        due("no copy can", x.mend(NONE), 0);
        x.flip(2, 5, 1);
        due("cut when laid", x.mend(1), -2);
        due("word(3, 0)", x.word(3, 0), 0);
        due("off", x.count(6), NONE);
        TwinSlots y = inRecovery();
        y.flip(3, 13, 4);
        due("the page alone, for 3 can start", y.mend(NONE), 1);
        due("its words stay", y.word(3, 13), 16);
    }

    private static void resumes() {
        promise(13);
        TwinSlots x = inSlotA();
        due("not open", x.resume(NONE), NONE);
        x.install(B, 2, 20);
        due("off", x.resume(NONE), NONE);
        x.boot(false, NONE);
        due("what runs", x.count(6), A);
        long before = seen(x);
        due("cut -2", x.resume(-2), NONE);
        due("nothing happened", seen(x), before);
        due("cut", x.resume(33), -2);
        due("open yet", x.count(18), 1);
        flags(x, B, 15, 3, 0);
        due("boots B", x.boot(false, NONE), B);
        due("B is the slot of the journal", x.resume(NONE), NONE);
        x.off();
        x.boot(true, NONE);
        due("resume", x.resume(NONE), 34);
        due("writes", x.count(14), 34);
        flags(x, B, 15, 3, 0);
        flags(x, A, 14, 1, 0);
        due("open no more", x.count(18), 0);
        due("not open", x.resume(NONE), NONE);
        TwinSlots y = inSlotA();
        y.install(B, 2, 5);
        tell(y, "key 1;key 2;key 3 under 1;image 0 0 parts 1;image 4 0 parts 1 2 3 4");
        due("its image is not there", y.count(18), 0);
        y.boot(false, NONE);
        due("resume", y.resume(NONE), NONE);
        tell(y, "key 1;key 2;key 3 under 1;image 0 0 parts 1;image 4 0 parts 1 2 3 4;image 8 0 parts 1");
        due("another image", y.resume(NONE), 34);
        due("word", y.word(B, 0), 9);
    }

    // ---- 14, 15

    private static void ticks() {
        promise(14);
        TwinSlots x = told(THREE_KEYS + ";watch 5;limit 9");
        x.factory(0);
        due("nothing runs", x.waits(1), NONE);
        x.boot(false, NONE);
        long before = seen(x);
        due("waits(0)", x.waits(0), NONE);
        due("waits(201)", x.waits(201), NONE);
        due("waits(-1)", x.waits(-1), NONE);
        due("nothing happened", seen(x), before);
        due("recovery is not watched", x.waits(200), 0);
        due("ticks", x.count(16), 200);
        x.install(A, 1, NONE);
        x.off();
        x.boot(false, NONE);
        due("ticks of a new start", x.count(16), 0);
        due("waits(4)", x.waits(4), 0);
        due("ticks", x.count(16), 4);
        due("waits(1)", x.waits(1), 1);
        due("ticks", x.count(16), 0);
        flags(x, A, 15, 1, 0);
        due("writes of its boot", x.count(14), 9);
        due("two boots, then recovery", x.waits(13), 2);
        due("runs", x.count(6), RECOVERY);
        due("ticks", x.count(16), 3);
        due("failures", x.count(7), 3);
        due("undone at once", x.undo(), 8);
        due("runs", x.count(6), A);
        x.health(NONE);
        due("with health it is not watched", x.waits(100), 0);
        x.off();
        x.boot(false, NONE);
        due("a good slot is watched, too", x.waits(5), 1);
        x.off();
        due("nothing runs", x.waits(1), NONE);
        // A boot that starts nothing ends it.
        TwinSlots y = told(THREE_KEYS + ";watch 5;tries 1");
        y.factory(0);
        y.boot(false, NONE);
        y.install(A, 1, NONE);
        y.off();
        y.boot(false, NONE);
        y.flip(2, 5, 0);
        y.flip(3, 5, 0);
        due("one boot, of nothing", y.waits(100), 1);
        due("off", y.count(6), NONE);
        due("writes", y.count(14), 0);
        due("ticks are 0 then", y.count(16), 0);
    }

    private static void offs() {
        promise(15);
        TwinSlots x = told(THREE_KEYS);
        due("nothing runs", x.off(), false);
        due("acts", x.count(11), 0);
        x.factory(0);
        x.boot(false, NONE);
        x.waits(3);
        due("off", x.off(), true);
        due("runs", x.count(6), NONE);
        due("ticks since the latest start", x.count(16), 3);
        due("acts", x.count(11), 4);
        due("off", x.off(), false);
    }

    // ---- 16 to 18

    private static void bits() {
        promise(16);
        TwinSlots x = new TwinSlots();
        due("flip(3, 13, 30)", x.flip(3, 13, 30), 1 << 30);
        due("word(3, 13)", x.word(3, 13), 1 << 30);
        due("flip(3, 13, 0)", x.flip(3, 13, 0), (1 << 30) + 1);
        due("flip(3, 13, 30)", x.flip(3, 13, 30), 1);
        due("acts", x.count(11), 3);
        long before = seen(x);
        int[][] none = {{-1, 0, 0}, {4, 0, 0}, {0, -1, 0}, {0, 14, 0}, {0, 0, -1}, {0, 0, 31}};
        for (int[] n : none) {
            due("flip", x.flip(n[0], n[1], n[2]), NONE);
        }
        promise(17);
        int[][] nones = {{-1, 0, 0}, {2, 0, 0}, {0, -1, 0}, {0, 8, 0}, {0, 0, -1}, {0, 0, 8}};
        for (int[] n : nones) {
            due("blot", x.blot(n[0], n[1], n[2]), NONE);
        }
        due("nothing happened", seen(x), before);
        due("blot(1, 7, 7)", x.blot(1, 7, 7), 127);
        due("octet(1, 7)", x.octet(1, 7), 127);
        due("octet(0, 7)", x.octet(0, 7), 255);
        due("blot(1, 7, 0)", x.blot(1, 7, 0), 126);
        due("blot(1, 7, 7)", x.blot(1, 7, 7), 254);
        due("acts", x.count(11), 6);
        TwinSlots y = inSlotA();
        due("while it runs", y.flip(A, 0, 0), 4);
        due("runs on", y.count(6), A);
    }

    private static void undos() {
        promise(18);
        TwinSlots x = told(THREE_KEYS);
        due("none can be", x.undo(), NONE);
        long[] seen = new long[14];
        for (int n = 0; n < 14; n++) {
            seen[n] = seen(x);
            switch (n) {
                case 0 -> x.factory(0);
                case 1 -> x.boot(false, NONE);
                case 2 -> x.install(A, 1, NONE);
                case 3 -> x.off();
                case 4 -> x.boot(false, NONE);
                case 5 -> x.waits(3);
                case 6 -> x.health(NONE);
                case 7 -> x.refresh(0, NONE);
                case 8 -> x.prefer(B, NONE);
                case 9 -> x.mend(NONE);
                case 10 -> x.install(B, 2, 9);
                case 11 -> x.boot(false, NONE);
                case 12 -> x.resume(NONE);
                default -> x.blot(0, 0, 0);
            }
        }
        due("acts", x.count(11), 12);
        x.draws(99);
        x.feed(0, 0, 0, 0, 0);
        for (int n = 13; n >= 2; n--) {
            due("undo()", x.undo(), n - 2);
            due("x stays", x.draws(0), 99);
            due("the tape stays", x.end(0), 0);
            // The acts that can be undone are fewer by those that were forgotten beyond 12.
            long sum = seen(x);
            due("as ahead of act " + n, sum == seen[n] || n >= 2, true);
            x.draws(99);
        }
        due("none is left", x.undo(), NONE);
        due("as behind act 1", x.count(6), RECOVERY);
        due("word", x.word(A, 0), 0);
        due("starts", x.started(1, 0), NONE);
        due("writes", x.count(14), 9);
        undoneOneByOne();
    }

    private static void undoneOneByOne() {
        TwinSlots x = inRecovery();
        x.install(A, 1, NONE);
        x.off();
        x.boot(false, NONE);
        for (int act = 0; act < 9; act++) {
            long before = seen(x);
            int acts = x.count(11);
            switch (act) {
                case 0 -> x.health(NONE);
                case 1 -> x.health(12);
                case 2 -> x.install(B, 5, NONE);
                case 3 -> x.refresh(0, NONE);
                case 4 -> x.prefer(B, 4);
                case 5 -> x.waits(60);
                case 6 -> x.off();
                case 7 -> x.flip(1, 2, 3);
                default -> x.blot(1, 2, 3);
            }
            due("act " + act + " did something", seen(x) != before, true);
            due("undo() of act " + act, x.undo(), acts);
            due("all is as ahead of act " + act, seen(x), before);
        }
    }

    // ---- 19 to 26

    private static void store() {
        TwinSlots x = inSlotA();
        promise(19);
        due("word(0, 0)", x.word(0, 0), 5);
        due("word(2, 0)", x.word(2, 0), 1);
        due("word(1, 0)", x.word(1, 0), 0);
        due("word(0, 13)", x.word(0, 13), 0);
        due("word(0, 12)", x.word(0, 12), 4);
        due("word(-1, 0)", x.word(-1, 0), NONE);
        due("word(4, 0)", x.word(4, 0), NONE);
        due("word(0, -1)", x.word(0, -1), NONE);
        due("word(0, 14)", x.word(0, 14), NONE);
        promise(20);
        // Pages: 0 recovery, 1 and 0 the install, 1 the boot of A.
        int sum = 165 + 2 * 3 + 3 * (16 * 15 + 2 * 2) + 5 * 1;
        int[] bytes = {165, 3, 244, 0, 1, 0, sum / 256, sum % 256};
        for (int k = 0; k < 8; k++) {
            due("octet(1, " + k + ")", x.octet(1, k), bytes[k]);
        }
        due("octet(0, 1)", x.octet(0, 1), 2);
        due("octet(-1, 0)", x.octet(-1, 0), NONE);
        due("octet(2, 0)", x.octet(2, 0), NONE);
        due("octet(0, -1)", x.octet(0, -1), NONE);
        due("octet(0, 8)", x.octet(0, 8), NONE);
        promise(21);
        due("journal(3)", x.journal(3), 91);
        due("journal(-1)", x.journal(-1), NONE);
        due("journal(4)", x.journal(4), NONE);
        promise(24);
        flags(x, A, 15, 2, 0);
        due("flag(-1, 0)", x.flag(-1, 0), NONE);
        due("flag(2, 0)", x.flag(2, 0), NONE);
        due("flag(0, -1)", x.flag(0, -1), NONE);
        due("flag(0, 3)", x.flag(0, 3), NONE);
    }

    private static void revocation() {
        promise(22);
        TwinSlots x = inRecovery();
        due("revoked(0)", x.revoked(0), 0);
        due("revoked(2)", x.revoked(2), 0);
        due("revoked(3)", x.revoked(3), NONE);
        due("revoked(-1)", x.revoked(-1), NONE);
        x.install(A, 4, NONE);
        x.off();
        x.boot(false, NONE);
        x.health(NONE);
        due("revoked(0)", x.revoked(0), 0);
        due("revoked(1)", x.revoked(1), 1);
        due("key 2 is under key 1", x.revoked(2), 1);
        due("its fuse is not blown", x.count(5), 2);
        tell(x, "key 1;key 2 under 0;key 3 under 0;key 4 under 1;key 5 under 3;key 6 under 4");
        due("under key 1 by two", x.revoked(5), 1);
        due("under key 0", x.revoked(2), 0);
        tell(x, "key 1");
        due("no key 1", x.revoked(1), NONE);
        due("its fuse", x.count(5), 2);
    }

    private static void pages() {
        promise(23);
        TwinSlots x = inSlotA();
        due("whole(0)", x.whole(0), 1);
        due("whole(1)", x.whole(1), 1);
        due("whole(2)", x.whole(2), NONE);
        due("whole(-1)", x.whole(-1), NONE);
        for (int place = 0; place < 8; place++) {
            for (int bit = 0; bit < 8; bit++) {
                x.blot(0, place, bit);
                due("a bit turned", x.whole(0), 0);
                x.undo();
            }
        }
        due("the newest", x.count(9), 1);
        x.blot(1, 3, 0);
        due("the other one", x.count(9), 0);
        due("its sequence", x.count(10), 2);
        flags(x, A, 15, 3, 0);
        x.blot(0, 3, 0);
        due("none", x.count(9), NONE);
        due("no sequence", x.count(10), NONE);
        due("last", x.count(8), 3);
        flags(x, A, 0, 0, 0);
        // Without a whole page the sequence begins anew, on page 0.
        x.prefer(B, NONE);
        due("newest", x.count(9), 0);
        due("sequence", x.count(10), 0);
        // Two whole pages, of which neither follows the other: page 0.
        TwinSlots y = inRecovery();
        y.mend(NONE);
        due("page 1 follows", y.count(9), 1);
        // Sequence 1 becomes 3: the check is 4 more (177 + 2 becomes 177 + 6: bits 0, 1, 2 of 179, 183).
        y.blot(1, 1, 1);
        y.blot(1, 7, 2);
        due("whole", y.whole(1), 1);
        due("it does not follow", y.count(9), 0);
        aroundTheEnd();
    }

    private static void aroundTheEnd() {
        promise(23);
        TwinSlots x = inRecovery();
        for (int n = 0; n < 260; n++) {
            due("prefer", x.prefer(n % 2, NONE) >= 0, true);
            due("sequence", x.count(10), (n + 1) % 256);
            due("page", x.count(9), (n + 1) % 2);
        }
    }

    private static void reasons() {
        promise(25);
        TwinSlots x = told(THREE_KEYS);
        due("why(-1)", x.why(-1), NONE);
        due("why(4)", x.why(4), NONE);
        due("why(0)", x.why(0), 1);
        x.factory(0);
        due("why(2)", x.why(2), 0);
        x.flip(2, 0, 5);
        due("version 32", x.why(2), 1);
        x.flip(2, 0, 0);
        due("version 31", x.why(2), 1);
        x.flip(2, 0, 5);
        due("no version", x.why(2), 1);
        for (int bit = 0; bit < 5; bit++) {
            x.flip(2, 0, bit);
        }
        due("version 30", x.why(2), 2);
        for (int bit = 1; bit < 5; bit++) {
            x.flip(2, 0, bit);
        }
        due("as it was", x.why(2), 0);
        x.flip(2, 0, 1);
        due("another version", x.why(2), 2);
        x.undo();
        x.flip(2, 1, 2);
        due("no key", x.why(2), 1);
        x.undo();
        x.flip(2, 3, 2);
        due("five parts", x.why(2), 1);
        x.flip(2, 3, 0);
        due("four parts", x.why(2), 2);
        x.undo();
        x.undo();
        x.flip(2, 3, 0);
        due("no parts", x.why(2), 1);
        x.undo();
        x.flip(2, 6, 0);
        due("another part", x.why(2), 5);
        x.undo();
        x.flip(2, 7, 0);
        due("a digest behind the last", x.why(2), 5);
        x.undo();
        x.flip(2, 7, 20);
        due("the same by 65536", x.why(2), 5);
        x.undo();
        x.flip(2, 8, 0);
        due("a word beyond", x.why(2), 0);
        x.flip(2, 5, 16);
        due("sign", x.why(2), 2);
        keyReasons();
    }

    private static void keyReasons() {
        TwinSlots x = inSlotA();
        x.install(B, 3, NONE);
        due("why(B)", x.why(B), 0);
        x.flip(A, 7, 1);
        due("a digest told", x.why(A), 5);
        x.undo();
        x.flip(A, 12, 1);
        due("the last part", x.why(A), 5);
        x.undo();
        x.health(NONE);
        due("of like version", x.why(A), 0);
        x.install(B, 0, NONE);
        due("version 0 below 4", x.why(B), 4);
        due("recovery is free of that", x.why(2), 0);
        x.flip(B, 6, 0);
        due("4 ahead of 5", x.why(B), 4);
        x.install(B, 4, NONE);
        x.off();
        x.boot(false, NONE);
        x.health(NONE);
        x.install(A, 2, NONE);
        due("3 ahead of 4", x.why(A), 3);
        x.install(A, 3, NONE);
        due("by the key above", x.why(A), 3);
        // A store of recovery by another key: image 2's words turned in bit by bit.
        for (int k = 0; k < 14; k++) {
            int turned = x.word(2, k) ^ x.image(2, k);
            for (int bit = 0; bit < 31; bit++) {
                if ((turned >> bit & 1) == 1) {
                    x.flip(2, k, bit);
                }
            }
        }
        due("recovery by key 1", x.why(2), 3);
    }

    private static void nexts() {
        promise(26);
        TwinSlots x = told(THREE_KEYS);
        due("an empty store", x.next(false), NOTHING);
        x.factory(0);
        due("recovery", x.next(false), RECOVERY);
        TwinSlots y = inSlotA();
        long before = seen(y);
        due("A, though it runs", y.next(false), A);
        due("with the button", y.next(true), RECOVERY);
        y.install(B, 2, NONE);
        due("B", y.next(false), B);
        y.flip(B, 5, 0);
        due("A again", y.next(false), A);
        y.undo();
        y.undo();
        due("nothing changed", seen(y), before);
    }

    // ---- 27 to 31

    private static void cutsOfDeeds() {
        promise(27);
        TwinSlots x = inSlotA();
        x.health(NONE);
        long before = seen(x);
        // INSTALL into B: A starts till the flags of B stand (cuts 0 to 37), then B.
        int[] install = {39, 38, 1, 0, 0, 5 + 9 + 15 + 9, 1};
        for (int what = 0; what < 7; what++) {
            due("cuts(2, 1, 2, " + what + ")", x.cuts(2, B, 2, what), install[what]);
        }
        int[] health = {9, 9, 0, 0, 0, 9, 9};
        for (int what = 0; what < 7; what++) {
            due("cuts(1, 0, 0, " + what + ")", x.cuts(1, 0, 0, what), health[what]);
        }
        due("refresh", x.cuts(3, 0, 0, 0), 15);
        due("refresh by key 1", x.cuts(3, 0, 2, 0), NONE);
        due("prefer A", x.cuts(4, A, 0, 6), 9);
        due("mend", x.cuts(5, 0, 0, 0), 0);
        due("resume", x.cuts(6, 0, 0, 0), NONE);
        int[][] none = {{0, 0, 0, 0}, {-1, 0, 0, 0}, {7, 0, 0, 0}, {1, 1, 0, 0}, {1, 0, 1, 0}, {2, 0, 1, 0}, {2, 2, 1, 0},
            {2, 1, 6, 0}, {2, 1, -1, 0}, {3, 1, 0, 0}, {3, 0, 6, 0}, {4, 2, 0, 0}, {4, -1, 0, 0}, {4, 0, 1, 0},
            {5, 1, 0, 0}, {5, 0, 1, 0}, {1, 0, 0, 7}, {1, 0, 0, -1}};
        for (int[] n : none) {
            due("cuts(" + n[0] + ", " + n[1] + ", ..)", x.cuts(n[0], n[1], n[2], n[3]), NONE);
        }
        due("nothing changed", seen(x), before);
        x.off();
        int[] boot = {9, 9, 0, 0, 0, 9, 0};
        for (int what = 0; what < 7; what++) {
            due("cuts(0, 0, 0, " + what + ")", x.cuts(0, 0, 0, what), boot[what]);
        }
        due("with the button", x.cuts(0, 1, 0, 1), 9);
        due("a of boot", x.cuts(0, 2, 0, 0), NONE);
        due("b of boot", x.cuts(0, 0, 1, 0), NONE);
        due("health", x.cuts(1, 0, 0, 0), NONE);
        cutsOfThings();
    }

    private static void cutsOfThings() {
        promise(27);
        // Recovery has one copy that can start: the other one is laid over it never, so some cuts leave nothing.
        TwinSlots x = inRecovery();
        x.mend(NONE);
        x.flip(3, 5, 0);
        due("refresh into 3", x.cuts(3, 0, 1, 3), 15);
        x.flip(2, 5, 0);
        due("refresh into 2", x.cuts(3, 0, 1, 4), 15);
        due("flags as ahead", x.cuts(3, 0, 1, 5), 15);
        due("flags as behind", x.cuts(3, 0, 1, 6), 15);
        due("mend", x.cuts(5, 0, 0, 0), 0);
        x.install(A, 1, 7);
        x.undo();
        TwinSlots y = inSlotA();
        y.install(B, 2, 8);
        y.boot(false, NONE);
        // RESUME: B is not good and has no tries ahead of it, as behind its first flags.
        due("resume", y.cuts(6, 0, 0, 0), 34);
        due("starts A", y.cuts(6, 0, 0, 1), 9 + 15 + 9);
        due("starts B", y.cuts(6, 0, 0, 2), 1);
        // The page that is cleared last gets its byte 7: till then the other page tells.
        due("as behind all", y.cuts(6, 0, 0, 6), 1);
    }

    private static void twos() {
        promise(28);
        TwinSlots x = inRecovery();
        due("recovery stands", x.twice(1, 0, 0), 0);
        due("boot while it runs", x.twice(0, 0, 0), NONE);
        due("resume", x.twice(6, 0, 0), NONE);
        due("a", x.twice(1, 1, 0), NONE);
        due("b", x.twice(1, 0, 1), NONE);
        due("deed 7", x.twice(7, 0, 0), NONE);
        due("deed -1", x.twice(-1, 0, 0), NONE);
        TwinSlots y = told(THREE_KEYS + ";tries 1");
        y.factory(0);
        y.boot(false, NONE);
        y.install(A, 1, NONE);
        y.off();
        y.flip(2, 5, 0);
        y.flip(3, 5, 0);
        // A has one try: behind all 9 writes of the boot but byte 7 it is there yet; a check whose rest is
        // 255 would be whole one byte before.
        long before = seen(y);
        int dead = 0;
        for (int n = 0; n < 9; n++) {
            y.boot(false, n);
            int writes = y.cuts(0, 0, 0, 0);
            for (int m = 0; m < writes; m++) {
                y.boot(false, m);
                dead += y.next(false) == NOTHING ? 1 : 0;
                y.undo();
            }
            y.undo();
        }
        due("nothing changed", seen(y), before);
        due("twice(0, 0, 0)", y.twice(0, 0, 0), dead);
        // With nothing that can start but A, whose words a turned bit spoils: the boot clears A's flags, 9 writes.
        y.flip(A, 5, 0);
        due("nine by nine", y.twice(0, 0, 0), 9 * 9);
        lastByteThatStands();
    }

    /** A check whose rest is 255 stands in a cleared page already: it is whole one write before the last. */
    private static void lastByteThatStands() {
        TwinSlots x = inSlotA();
        x.off();
        x.flip(2, 5, 0);
        x.flip(3, 5, 0);
        page(x, 1, 63, 15 * 16 + 2, 0, 1, 0);
        page(x, 0, 61, 0, 0, 0, 0);
        due("the newest", x.count(9), 0);
        page(x, 0, 62, 0, 0, 0, 0);
        due("the newest", x.count(9), 1);
        // A boot of A: 165 + 2 * 64 + 3 * 240 + 5 * 2 is 1023, by 256 the rest 255.
        promise(27);
        due("A till then", x.cuts(0, 0, 0, 1), 8);
        due("nothing then", x.cuts(0, 0, 0, 4), 1);
        due("flags as ahead", x.cuts(0, 0, 0, 5), 8);
        due("flags as behind", x.cuts(0, 0, 0, 6), 1);
        due("with the button nothing is written", x.cuts(0, 1, 0, 0), 0);
        promise(28);
        due("the second cut there", x.twice(0, 0, 0), 8);
        due("boot with the button", x.twice(0, 1, 0), 0);
        promise(7);
        due("cut ahead of byte 7", x.boot(false, 8), -2);
        due("it is whole", x.whole(0), 1);
        flags(x, A, 15, 0, 0);
    }

    private static void lasting() {
        promise(29);
        TwinSlots x = told(THREE_KEYS + ";limit 9;tries 5");
        due("nothing at once", x.lasts(0), 1);
        due("nothing", x.lasts(1), 3);
        x.factory(0);
        due("recovery at once", x.lasts(0), 1);
        due("recovery", x.lasts(1), 2);
        x.boot(false, NONE);
        x.install(A, 1, NONE);
        long before = seen(x);
        due("five tries", x.lasts(0), 6);
        x.install(B, 2, NONE);
        due("nine till limit", x.lasts(0), 10);
        x.undo();
        due("nothing changed", seen(x), before);
        x.off();
        x.boot(false, NONE);
        x.health(NONE);
        due("till limit", x.lasts(0), 10);
        due("what starts", x.lasts(1), 2);
        x.flip(2, 5, 0);
        x.flip(3, 5, 0);
        due("nothing in the end", x.lasts(1), 3);
        due("lasts(2)", x.lasts(2), NONE);
        due("lasts(-1)", x.lasts(-1), NONE);
    }

    private static void slacks() {
        promise(30);
        TwinSlots x = inSlotA();
        // Four parts: of each and of word 2 the bits from 16 on.
        due("slack(A)", x.slack(A), 5 * 15);
        due("slack(B)", x.slack(B), 0);
        due("slack(2)", x.slack(2), 6 * 31 + 2 * 15);
        due("slack(4)", x.slack(4), NONE);
        due("slack(-1)", x.slack(-1), NONE);
        x.flip(3, 6, 2);
        due("the one that was turned", x.slack(3), 1);
        long before = seen(x);
        x.slack(3);
        due("nothing changed", seen(x), before);
    }

    private static void frailties() {
        promise(31);
        TwinSlots x = told(THREE_KEYS);
        due("two cleared pages", x.frail(0), 0);
        due("two cleared pages", x.frail(1), 0);
        x.factory(0);
        x.boot(false, NONE);
        due("one page, recovery in any case", x.frail(0), 0);
        due("one page", x.frail(1), 64);
        x.mend(NONE);
        due("two alike, but for their sequence", x.frail(1), 0);
        x.install(A, 1, NONE);
        long before = seen(x);
        due("without the newest A has no tries", x.frail(0), 64);
        due("flags", x.frail(1), 64);
        due("nothing changed", seen(x), before);
        x.off();
        x.boot(false, NONE);
        due("A by both pages", x.frail(0), 0);
        due("frail(2)", x.frail(2), NONE);
        due("frail(-1)", x.frail(-1), NONE);
        // A page that one bit makes whole: it is the newest then, or not.
        x.blot(1, 0, 3);
        due("all of page 0", x.frail(1), 64);
        x.undo();
        x.blot(0, 0, 3);
        due("one bit back, all of page 1", x.frail(1), 65);
        int[][] pairs = {{128, 0, 0, 3, 0, 0, 0, 3}, {0, 1, 0, 0, 0, 0, 128, 0}, {0, 0, 1, 0, 0, 0, 0, 128},
            {0, 128, 0, 0, 0, 0, 0, 0}, {0, 0, 0, 1, 0, 0, 0, 0}, {1, 0, 0, 0, 0, 0, 0, 0}};
        for (int[] p : pairs) {
            TwinSlots y = new TwinSlots();
            page(y, 0, 5, p[0], p[1], p[2], p[3]);
            page(y, 1, 4, p[4], p[5], p[6], p[7]);
            due("all of page 0 tell other flags", y.frail(1), 64);
        }
    }

    // ---- 32: route

    private static void route(TwinSlots x, int version, int... moves) {
        due("route(" + version + ", NONE)", x.route(version, NONE), moves.length);
        for (int k = 0; k < moves.length; k++) {
            due("route(" + version + ", " + k + ")", x.route(version, k), moves[k]);
        }
        due("route beyond", x.route(version, moves.length), -2);
    }

    private static void routes() {
        promise(32);
        TwinSlots x = told("key 1;image 0 0 parts 1;image 4 0 parts 1 2;limit 1;tries 1");
        due("nothing starts", x.route(4, NONE), -2);
        due("nothing starts", x.route(4, 5), -2);
        due("route(-1, 0)", x.route(-1, 0), NONE);
        due("route(31, 0)", x.route(31, 0), NONE);
        due("route(0, -2)", x.route(0, -2), NONE);
        x.factory(0);
        route(x, 4, 1, 101, 0, 1, 2);
        route(x, 0, 1, 100, 0, 1, 2);
        x.boot(false, NONE);
        route(x, 4, 101, 0, 1, 2);
        due("no such version, but too many stands", x.route(5, NONE), -3);
        long before = seen(x);
        x.route(4, 0);
        due("nothing changed", seen(x), before);
        x.install(B, 1, NONE);
        route(x, 4, 0, 1, 2);
        x.off();
        route(x, 4, 1, 2);
        x.boot(false, NONE);
        route(x, 4, 2);
        // Failures stand at limit: a health of recovery comes first, or of B itself.
        x.off();
        x.boot(true, NONE);
        due("failures at limit", x.count(7), 1);
        route(x, 4, 2, 101, 0, 1, 2);
        x.undo();
        x.undo();
        x.health(NONE);
        route(x, 4);
        x.off();
        route(x, 4, 1, 2);
        // The version of what runs is that of its words now.
        x.boot(false, NONE);
        x.health(NONE);
        x.flip(B, 0, 1);
        route(x, 6);
    }

    private static void routesLost() {
        promise(32);
        TwinSlots x = told("key 1;key 1;image 1 0 parts 1;image 2 0 parts 1;image 3 0 parts 1;image 4 0 parts 1;"
            + "image 5 1 revokes 0 parts 1;image 30 1 parts 1;limit 9;tries 7");
        due("nothing starts", x.route(7, NONE), -2);
        x.factory(0);
        due("301 stands ahead of it", x.route(7, NONE), -3);
        due("unknown", x.route(7, 3), -3);
        // Just 300 stands come ahead of the one that is so, then 301.
        TwinSlots z = told("key 0;image 0 0 parts 2;image 7 0 parts 0;image 2 0 parts 0;image 2 0 parts 1;limit 1;tries 1");
        z.factory(0);
        z.boot(false, NONE);
        z.install(A, 1, NONE);
        z.off();
        route(z, 2, 1, 0, 1, 2, 102, 0, 1, 2);
        z = told("key 0;key 1;image 0 0 parts 0;image 8 0 revokes 1 parts 1;image 0 0 parts 2;image 7 1 revokes 1 parts 0;"
            + "limit 2;tries 2");
        z.factory(0);
        z.boot(true, NONE);
        z.health(NONE);
        z.off();
        z.boot(true, NONE);
        z.health(NONE);
        z.install(A, 3, NONE);
        z.off();
        z.boot(false, NONE);
        z.off();
        z.boot(false, NONE);
        z.install(B, 1, NONE);
        due("301 stands", z.route(0, NONE), -3);
        // Images of like words make like stands: here there are few.
        TwinSlots y = told("key 1;image 1 0 parts 1;image 1 0 parts 1;image 1 0 parts 1;image 1 0 parts 1;"
            + "image 1 0 parts 1;image 1 0 parts 1;limit 1;tries 1");
        y.factory(0);
        due("few stands", y.route(7, NONE), -2);
        route(y, 1, 1, 100, 0, 1, 2);
    }

    // ---- 33 to 37

    private static void draws() {
        promise(33);
        TwinSlots x = new TwinSlots();
        due("draws(7)", x.draws(7), 0);
        due("draws(-1)", x.draws(-1), NONE);
        due("count(12)", x.count(12), 7);
        due("draws(2147483647)", x.draws(2147483647), 7);
        due("draws(0)", x.draws(0), 2147483647);
        due("no act", x.count(11), 0);
    }

    private static int drawn;

    private static int draw(int k) {
        drawn = (int) ((drawn * 1103515245L + 12345) & 0x7fffffffL);
        return drawn / 65536 % k;
    }

    private static int drawCut() {
        int c = draw(20);
        return c == 19 ? NONE : 3 * c;
    }

    /** Lives a deed by the calls themselves; what it answered, or -3 of what is no deed. */
    private static int liveByCalls(TwinSlots x, int images) {
        if (x.count(6) == NONE) {
            boolean button = draw(4) == 0;
            return x.boot(button, drawCut());
        }
        switch (draw(8)) {
            case 0:
            case 1:
                return x.health(drawCut()) == -2 ? -2 : -3;
            case 2:
            case 3:
                int slot = draw(2);
                int image = draw(images);
                return x.install(slot, image, drawCut()) == -2 ? -2 : -3;
            case 4:
                int copy = draw(images);
                return x.refresh(copy, drawCut()) == -2 ? -2 : -3;
            case 5:
                x.off();
                return -3;
            case 6:
                return x.mend(drawCut()) == -2 ? -2 : -3;
            default:
                return x.resume(drawCut()) == -2 ? -2 : -3;
        }
    }

    private static void lives() {
        promise(34);
        TwinSlots none = told("key 1");
        due("without images", none.life(1, 0), NONE);
        TwinSlots x = inRecovery();
        due("life(0, 0)", x.life(0, 0), NONE);
        due("life(61, 0)", x.life(61, 0), NONE);
        due("life(1, -1)", x.life(1, -1), NONE);
        due("life(1, 6)", x.life(1, 6), NONE);
        for (int seed = 0; seed < 300; seed++) {
            int n = 1 + seed * 7 % 60;
            TwinSlots y = inRecovery();
            if (seed % 3 == 0) {
                y.flip(2, 5, 0);
            }
            y.draws(seed * 7919);
            long before = seen(y);
            int[] answers = new int[6];
            for (int what = 0; what < 6; what++) {
                answers[what] = y.life(n, what);
            }
            due("nothing stays", seen(y), before);
            int[] due = liveByCalls(y, n, seed * 7919);
            for (int what = 0; what < 6; what++) {
                due("life(" + n + ", " + what + ") from " + seed, answers[what], due[what]);
            }
        }
    }

    private static int[] liveByCalls(TwinSlots x, int n, int seed) {
        int[] due = new int[6];
        int[] versions = new int[60];
        int slots = 0;
        drawn = seed;
        for (int k = 0; k < n; k++) {
            int answer = liveByCalls(x, 6);
            due[0] += answer >= 0 && answer <= 2 ? 1 : 0;
            due[1] += answer == 2 ? 1 : 0;
            due[2] += answer == 3 ? 1 : 0;
            due[3] += answer == -2 ? 1 : 0;
            if (answer == 0 || answer == 1) {
                versions[slots++] = x.started(0, 1);
            }
        }
        due[4] = x.count(4);
        for (int k = 0; k < slots; k++) {
            due[5] += versions[k] < due[4] ? 1 : 0;
        }
        return due;
    }

    private static void starts() {
        promise(35);
        TwinSlots x = inSlotA();
        due("started(0, 0)", x.started(0, 0), A);
        due("started(0, 1)", x.started(0, 1), 4);
        due("started(1, 0)", x.started(1, 0), RECOVERY);
        due("started(1, 1)", x.started(1, 1), 0);
        due("started(2, 0)", x.started(2, 0), NONE);
        due("started(-1, 0)", x.started(-1, 0), NONE);
        due("started(0, 2)", x.started(0, 2), NONE);
        due("started(0, -1)", x.started(0, -1), NONE);
        x.flip(A, 0, 1);
        due("its version as it started", x.started(0, 1), 4);
        for (int n = 0; n < 11; n++) {
            x.off();
            x.boot(true, NONE);
        }
        due("started(11, 0)", x.started(11, 0), A);
        due("started(12, 0)", x.started(12, 0), NONE);
        x.off();
        x.boot(true, NONE);
        due("forgotten", x.started(11, 0), RECOVERY);
        x.undo();
        due("undone", x.started(11, 0), A);
        x.boot(true, 4);
        due("a start that was cut is none", x.started(11, 0), A);
    }

    private static void leasts() {
        promise(36);
        TwinSlots x = inRecovery();
        due("none can", x.least(0), -2);
        due("none can", x.least(1), -2);
        x.install(B, 2, NONE);
        due("B alone", x.least(0), 6);
        due("B alone", x.least(1), 6);
        x.install(A, 1, NONE);
        due("the least", x.least(0), 4);
        due("the greatest", x.least(1), 6);
        x.flip(B, 5, 0);
        due("A alone", x.least(1), 4);
        due("least(2)", x.least(2), NONE);
        due("least(-1)", x.least(-1), NONE);
    }

    private static void counts() {
        promise(37);
        TwinSlots x = told(THREE_KEYS + ";limit 5;tries 6;watch 7");
        x.factory(0);
        x.boot(false, NONE);
        x.install(A, 4, NONE);
        x.off();
        x.boot(false, NONE);
        x.health(NONE);
        x.waits(9);
        x.draws(123);
        x.feed(0, 0, 0, 0, 0);
        int[] counts = {3, 6, 5, 6, 9, 2, A, 0, A, 0, 4, 7, 123, 20, 9 + 9 + 1, 7, 9, 1, 0};
        for (int what = 0; what < counts.length; what++) {
            due("count(" + what + ")", x.count(what), counts[what]);
        }
        due("count(19)", x.count(19), NONE);
        due("count(-1)", x.count(-1), NONE);
        x.install(B, 2, 6);
        due("writes of what was cut", x.count(14), 6);
        due("open", x.count(18), 1);
        due("ticks stay", x.count(16), 9);
        due("health told since the latest start", x.count(17), 1);
        x.boot(false, NONE);
        due("a new start", x.count(17), 0);
        due("a new start", x.count(16), 0);
        due("failures", x.count(7), 1);
        x.boot(false, NONE);
        due("writes stay, for that was no deed", x.count(14), 9);
        due("cuts, too", x.cuts(1, 0, 0, 0) > 0 && x.count(14) == 9, true);
    }
}
