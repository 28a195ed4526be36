import java.lang.reflect.InvocationTargetException;
import java.lang.reflect.Method;
import java.lang.reflect.Modifier;
import java.util.Arrays;
import java.util.Comparator;

/** What the tests share: answers that are due, and objects brought to where a test begins. */
abstract class Checks {
    // Image 0 for recovery, 1 to 5 for slots; key 2 under key 1.
    static final String THREE_KEYS = "key 1;key 2;key 3 under 1;image 0 0 parts 1;image 4 0 parts 1 2 3 4;"
        + "image 6 1 parts 5;image 7 2 parts 6;image 9 0 revokes 1 parts 7;image 9 0 revokes 2,1 parts 8";
    static final int A = 0;
    static final int B = 1;
    static final int RECOVERY = 2;
    static final int NOTHING = 3;
    static final int NONE = -1;
    static final int POWER_FAILED = -2;
    static final int[] FAR = {Integer.MIN_VALUE, Integer.MIN_VALUE + 1, -2, Integer.MAX_VALUE - 1, Integer.MAX_VALUE};

    static int wrong;
    private static int promise;
    private static String sentence = "";
    private static int dues;

    /** Runs each method of a class that is static, takes nothing and is not private: each is a test. */
    static void runAll(Class<?> tests) {
        Method[] methods = tests.getDeclaredMethods();
        Arrays.sort(methods, Comparator.comparing(Method::getName));
        int run = 0;
        for (Method method : methods) {
            boolean isOpen = !Modifier.isPrivate(method.getModifiers()) && !method.isSynthetic();
            if (isOpen && Modifier.isStatic(method.getModifiers()) && method.getParameterCount() == 0) {
                run(method);
                run++;
            }
        }
        System.out.println(tests.getName() + ": " + run + " tests, " + wrong + " wrong");
        if (wrong > 0 || run == 0) {
            System.exit(1);
        }
    }

    private static void run(Method method) {
        sentence = "";
        dues = 0;
        try {
            method.invoke(null);
        } catch (IllegalAccessException | InvocationTargetException e) {
            wrong++;
            System.out.println(method.getName() + " threw");
            e.printStackTrace(System.out);
        }
        if (dues == 0 || sentence.isEmpty()) {
            wrong++;
            System.out.println(method.getName() + " holds nothing against the document");
        }
    }

    static void promise(int number) {
        says(number, "");
    }

    /** The words of the document that the dues behind it hold the program to. */
    static void says(int number, String words) {
        promise = number;
        sentence = words;
    }

    static void due(String what, long got, long want) {
        dues++;
        if (got != want) {
            wrong++;
            System.out.println("promise " + promise + (sentence.isEmpty() ? "" : " (" + sentence + ")") + ": " + what
                + " answered " + got + ", due is " + want);
        }
    }

    static void due(String what, boolean got, boolean want) {
        due(what, got ? 1 : 0, want ? 1 : 0);
    }

    // ---- texts

    static void feed(TwinSlots x, String text) {
        x.end(0);
        for (int at = 0; at < text.length(); at += 20) {
            int[] n = new int[5];
            for (int k = 0; k < 20 && at + k < text.length(); k++) {
                n[k / 4] |= text.charAt(at + k) << (24 - 8 * (k % 4));
            }
            x.feed(n[0], n[1], n[2], n[3], n[4]);
        }
        x.end(text.length());
    }

    static int tell(TwinSlots x, String text) {
        feed(x, text);
        return x.bundle();
    }

    static TwinSlots told(String text) {
        TwinSlots x = new TwinSlots();
        if (tell(x, text) < 1) {
            wrong++;
            System.out.println("no bundle: " + text);
        }
        return x;
    }

    static void fault(String text, int place, int what) {
        TwinSlots x = new TwinSlots();
        due("bundle() of \"" + text + "\"", tell(x, text), -2 - (8 * place + what));
        due("keys of \"" + text + "\"", x.count(0), 0);
        due("images of \"" + text + "\"", x.count(1), 0);
    }

    static void lines(String text, int lines) {
        due("bundle() of \"" + text + "\"", tell(new TwinSlots(), text), lines);
    }

    // ---- objects

    /** Recovery stands (image 0 of the text) and runs. */
    static TwinSlots inRecovery(String text) {
        TwinSlots x = told(text);
        x.factory(0);
        x.boot(false, NONE);
        return x;
    }

    static TwinSlots inRecovery() {
        return inRecovery(THREE_KEYS);
    }

    /** Image 1 (of THREE_KEYS: version 4) runs in slot A, without health. */
    static TwinSlots inSlotA(String text) {
        TwinSlots x = inRecovery(text);
        x.install(A, 1, NONE);
        x.off();
        x.boot(false, NONE);
        return x;
    }

    static TwinSlots inSlotA() {
        return inSlotA(THREE_KEYS);
    }

    /** All that can be seen of the store, of what runs and of the acts, as one number. */
    static long seen(TwinSlots x) {
        long h = 7;
        for (int store = 0; store < 4; store++) {
            for (int k = 0; k < 14; k++) {
                h = h * 31 + x.word(store, k);
            }
        }
        for (int k = 0; k < 8; k++) {
            h = (h * 31 + x.octet(0, k)) * 31 + x.octet(1, k);
        }
        for (int k = 0; k < 4; k++) {
            h = h * 31 + x.journal(k);
        }
        for (int what = 0; what < 19; what++) {
            h = h * 31 + x.count(what);
        }
        for (int k = 0; k < 12; k++) {
            h = (h * 31 + x.started(k, 0)) * 31 + x.started(k, 1);
        }
        return h;
    }

    static void flags(TwinSlots x, int slot, int priority, int tries, int good) {
        due("flag(" + slot + ", 0)", x.flag(slot, 0), priority);
        due("flag(" + slot + ", 1)", x.flag(slot, 1), tries);
        due("flag(" + slot + ", 2)", x.flag(slot, 2), good);
    }

    /** A slot's byte of a page. */
    static int slotByte(int priority, int tries, int good) {
        return 16 * priority + 2 * tries + good;
    }

    /** Turns the bits of a page till it has these bytes. */
    static void bytes(TwinSlots x, int page, int... bytes) {
        for (int k = 0; k < 8; k++) {
            int turned = x.octet(page, k) ^ bytes[k];
            for (int bit = 0; bit < 8; bit++) {
                if ((turned >> bit & 1) == 1) {
                    x.blot(page, k, bit);
                }
            }
        }
    }

    /** Turns the bits of a page till it is whole with these. */
    static void page(TwinSlots x, int page, int sequence, int a, int b, int failures, int last) {
        int check = 165 + 2 * sequence + 3 * a + 4 * b + 5 * failures + 6 * last;
        bytes(x, page, 165, sequence, a, b, failures, last, check / 256, check % 256);
        due("the page is whole", x.whole(page), 1);
    }

    /** Turns the bits of pages till the flags are these, told by page 0 alone, of sequence 7. */
    static void tellFlags(TwinSlots x, int a, int b, int failures, int last) {
        bytes(x, 1, 0, 0, 0, 0, 0, 0, 0, 0);
        page(x, 0, 7, a, b, failures, last);
    }

    /** Turns the bits of a word till it is this. */
    static void word(TwinSlots x, int store, int k, int word) {
        int turned = x.word(store, k) ^ word;
        for (int bit = 0; bit < 31; bit++) {
            if ((turned >> bit & 1) == 1) {
                x.flip(store, k, bit);
            }
        }
    }

    /** Turns the bits of a store till it has the words of an image. */
    static void lay(TwinSlots x, int store, int image) {
        for (int k = 0; k < 14; k++) {
            word(x, store, k, x.image(image, k));
        }
    }

    /** Does a deed by its number, as cuts() takes it. */
    static int perform(TwinSlots x, int deed, int a, int b, int cut) {
        switch (deed) {
            case 0:
                return x.boot(a == 1, cut);
            case 1:
                return x.health(cut);
            case 2:
                return x.install(a, b, cut);
            case 3:
                return x.refresh(b, cut);
            case 4:
                return x.prefer(a, cut);
            case 5:
                return x.mend(cut);
            default:
                return x.resume(cut);
        }
    }
}
