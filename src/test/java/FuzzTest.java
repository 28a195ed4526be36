import java.util.Arrays;
import java.util.Random;

/** Drawn runs of calls, each answer held against that of the Model; the seeds are fixed. */
public final class FuzzTest {
    private static final String[] CALLS = {"boot", "health", "install", "off", "refresh", "prefer", "mend", "resume",
        "waits", "flip", "blot", "undo", "factory", "bundle", "draws", "next", "cuts", "twice", "lasts", "slack",
        "frail", "route", "life", "least", "why", "revoked", "image", "wild", "feed", "page"};
    // How often each call comes, of all together.
    private static final int[] WEIGHTS = {30, 20, 25, 14, 6, 6, 6, 9, 8, 4, 4, 6, 3, 1, 4, 3, 6, 2, 3, 1, 1, 2, 6, 3, 3,
        2, 2, 3, 1, 4};

    private final Random random;
    private final TwinSlots x = new TwinSlots();
    private final Model m = new Model();
    private final StringBuilder told = new StringBuilder();
    private int wrong;

    private FuzzTest(long seed) {
        random = new Random(seed);
    }

    public static void main(String[] args) {
        int runs = args.length > 1 ? Integer.parseInt(args[1]) : 400;
        int from = args.length > 2 ? Integer.parseInt(args[2]) : 0;
        int wrong = 0;
        for (int seed = from; seed < from + runs && wrong == 0; seed++) {
            FuzzTest run = new FuzzTest(seed);
            run.run(random(seed));
            wrong += run.wrong;
            if (run.wrong > 0) {
                System.out.println("seed " + seed + run.told);
            }
        }
        for (int seed = from; seed < from + runs * 20 && wrong == 0; seed++) {
            FuzzTest run = new FuzzTest(seed);
            run.texts();
            wrong += run.wrong;
            if (run.wrong > 0) {
                System.out.println("text of seed " + seed + run.told);
            }
        }
        System.out.println("FuzzTest: " + runs + " runs, " + wrong + " wrong");
        if (wrong > 0) {
            System.exit(1);
        }
    }

    private static int random(long seed) {
        return 60 + (int) (seed * 7919 % 180);
    }

    private void due(String call, long got, long want) {
        told.append("\n  ").append(call).append(" = ").append(got);
        if (got != want) {
            wrong++;
            told.append("  WRONG, due is ").append(want);
        }
    }

    private int below(int n) {
        return random.nextInt(n);
    }

    private boolean one(int of) {
        return below(of) == 0;
    }

    // ---- texts

    private String number(int most) {
        return (one(12) ? "0" : "") + (one(8) ? most : below(most + 1));
    }

    private String blanks() {
        return one(10) ? "  " : one(10) ? "" : " ";
    }

    private String drawText(int small) {
        StringBuilder text = new StringBuilder();
        int keys = 1 + below(small);
        for (int k = 0; k < keys; k++) {
            text.append("key ").append(number(9999));
            if (k > 0 && one(2)) {
                text.append(" under ").append(below(k));
            }
            text.append(";");
        }
        int images = 1 + below(6);
        for (int i = 0; i < images; i++) {
            text.append("image").append(blanks()).append(one(8) ? 30 - below(3) : below(5)).append(" ");
            text.append(one(2) ? 0 : below(keys));
            if (one(4)) {
                text.append(" revokes ").append(below(keys));
                for (int n = below(4); n > 0; n--) {
                    text.append(blanks()).append(",").append(below(keys));
                }
            }
            text.append(blanks()).append("parts");
            for (int n = 1 + below(one(2) ? 1 : 4); n > 0; n--) {
                text.append(" ").append(one(2) ? number(9) : number(99999));
            }
            text.append(";");
        }
        if (one(2)) {
            text.append("limit ").append(1 + below(9)).append(";");
        }
        if (one(2)) {
            text.append("tries ").append(1 + below(7)).append(";");
        }
        if (one(2)) {
            text.append("watch ").append(1 + below(one(2) ? 99 : 9)).append(";");
        }
        text.setLength(text.length() - 1);
        return text.toString();
    }

    private String spoil(String text) {
        StringBuilder spoilt = new StringBuilder(text);
        for (int n = 1 + below(2); n > 0 && spoilt.length() > 0; n--) {
            int at = below(spoilt.length());
            String signs = " ;,0123456789keyimaglprtswch";
            switch (below(8)) {
                case 0 -> spoilt.setCharAt(at, signs.charAt(below(signs.length())));
                case 1 -> spoilt.insert(at, signs.charAt(below(signs.length())));
                case 2 -> spoilt.deleteCharAt(at);
                case 3 -> spoilt.setLength(at);
                case 4 -> spoilt.insert(at, (char) below(256));
                case 5 -> spoilt.append(one(2) ? ";key 1" : one(2) ? ";image 0 0 parts 1" : ";limit 3");
                case 6 -> spoilt.insert(spoilt.indexOf(";") + 1, "key 5;key 5;key 5;");
                default -> spoilt.append(one(2) ? " 1 2 3 4" : one(2) ? ";limit 2;limit" : ";watch 5; watch 7");
            }
        }
        return spoilt.toString();
    }

    private void feed(String text) {
        String fits = text.length() > 300 ? text.substring(0, text.length() - text.length() % 20) : text;
        due("end(0)", x.end(0), m.end(0));
        for (int at = 0; at < fits.length(); at += 20) {
            int[] n = new int[5];
            for (int k = 0; k < 20; k++) {
                n[k / 4] |= (at + k < fits.length() ? fits.charAt(at + k) : 0) << (24 - 8 * (k % 4));
            }
            due("feed", x.feed(n[0], n[1], n[2], n[3], n[4]), m.feed(n[0], n[1], n[2], n[3], n[4]));
        }
        int n = Math.min(fits.length(), 300);
        due("end(" + n + ")", x.end(n), m.end(n));
        due("bundle() of \"" + fits + "\"", x.bundle(), m.bundle());
    }

    private void texts() {
        for (int n = 0; n < 6; n++) {
            String text = drawText(6);
            feed(one(3) ? text : spoil(text));
            compareBundle();
        }
    }

    private void compareBundle() {
        for (int image = -1; image < 7; image++) {
            for (int k = -1; k < 15; k++) {
                due("image(" + image + ", " + k + ")", x.image(image, k), m.image(image, k));
            }
        }
        for (int what = -1; what < 21; what++) {
            due("count(" + what + ")", x.count(what), m.count(what));
        }
    }

    // ---- runs

    private void run(int calls) {
        if (!one(20)) {
            feed(drawText(4));
            for (int image = 0; image < m.bundle.images.size(); image++) {
                due("factory(" + image + ")", x.factory(image) ? 1 : 0, m.factory(image) ? 1 : 0);
            }
        }
        for (int n = 0; n < calls && wrong == 0; n++) {
            call(likely(CALLS[drawCall()]));
            int kept = told.length();
            observe();
            if (wrong == 0) {
                told.setLength(kept);
            }
        }
    }

    /** Mostly a call that can be done now, so that a run does not stand still. */
    private String likely(String name) {
        boolean on = m.state.running != -1;
        boolean needsOn = "health install off refresh prefer mend resume waits".contains(name);
        if (one(8) || on != name.equals("boot") && (on || !needsOn)) {
            return name;
        }
        return on ? one(2) ? "off" : one(2) ? "health" : "install" : "boot";
    }

    private int drawCall() {
        int all = 0;
        for (int weight : WEIGHTS) {
            all += weight;
        }
        int drawn = below(all);
        for (int i = 0; i < WEIGHTS.length; i++) {
            drawn -= WEIGHTS[i];
            if (drawn < 0) {
                return i;
            }
        }
        return 0;
    }

    private int cut() {
        return one(2) ? -1 : one(30) ? -2 : below(one(3) ? 12 : 45);
    }

    private int drawImage() {
        return one(12) ? below(8) - 1 : below(Math.max(1, m.bundle.images.size()));
    }

    private int slot() {
        return one(20) ? below(5) - 1 : below(2);
    }

    private void call(String name) {
        int a = slot();
        int i = drawImage();
        int c = cut();
        int k = below(4);
        switch (name) {
            case "boot" -> due("boot(" + (k == 0) + ", " + c + ")", x.boot(k == 0, c), m.act(0, k == 0 ? 1 : 0, 0, c));
            case "health" -> due("health(" + c + ")", x.health(c), m.act(1, 0, 0, c));
            case "install" -> due("install(" + a + ", " + i + ", " + c + ")", x.install(a, i, c), m.act(2, a, i, c));
            case "off" -> due("off()", x.off() ? 1 : 0, m.off() ? 1 : 0);
            case "refresh" -> due("refresh(" + i + ", " + c + ")", x.refresh(i, c), m.act(3, 0, i, c));
            case "prefer" -> due("prefer(" + a + ", " + c + ")", x.prefer(a, c), m.act(4, a, 0, c));
            case "mend" -> due("mend(" + c + ")", x.mend(c), m.act(5, 0, 0, c));
            case "resume" -> due("resume(" + c + ")", x.resume(c), m.act(6, 0, 0, c));
            case "waits" -> {
                int n = one(10) ? below(220) - 5 : 1 + below(30);
                due("waits(" + n + ")", x.waits(n), m.waits(n));
            }
            case "flip" -> {
                int word = one(20) ? below(17) - 1 : below(14);
                int bit = one(2) ? below(5) : below(33) - 1;
                int store = one(20) ? below(7) - 1 : below(4);
                due("flip(" + store + ", " + word + ", " + bit + ")", x.flip(store, word, bit), m.flip(store, word, bit));
            }
            case "blot" -> {
                int place = one(20) ? below(11) - 1 : below(8);
                int bit = one(20) ? below(11) - 1 : below(8);
                due("blot(" + a + ", " + place + ", " + bit + ")", x.blot(a, place, bit), m.blot(a, place, bit));
            }
            case "undo" -> due("undo()", x.undo(), m.undo());
            case "factory" -> {
                int image = one(2) ? 0 : i;
                due("factory(" + image + ")", x.factory(image) ? 1 : 0, m.factory(image) ? 1 : 0);
            }
            case "page" -> {
                int page = below(2);
                int[] b = {165, (m.state.pages[1 - page][1] + 254 + below(5)) % 256, below(256), below(256),
                    one(3) ? below(256) : below(9), one(3) ? below(256) : below(4)};
                page(page, Arrays.copyOf(b, 8));
            }
            case "bundle" -> feed(one(3) ? spoil(drawText(4)) : drawText(4));
            default -> ask(name, a, i, k);
        }
    }

    /** Turns the bits of a page till it is whole with these bytes. */
    private void page(int page, int[] b) {
        for (int k = 0; k < 6; k++) {
            int check = b[6] * 256 + b[7] + (k + 1) * b[k];
            b[6] = check / 256;
            b[7] = check % 256;
        }
        for (int place = 0; place < 8; place++) {
            for (int bit = 0; bit < 8; bit++) {
                if (((m.state.pages[page][place] ^ b[place]) >> bit & 1) == 1) {
                    due("blot(" + page + ", " + place + ", " + bit + ")", x.blot(page, place, bit),
                        m.blot(page, place, bit));
                }
            }
        }
    }

    private void ask(String name, int a, int i, int k) {
        switch (name) {
            case "draws" -> {
                int seed = one(10) ? -1 - below(5) : random.nextInt();
                due("draws(" + seed + ")", x.draws(seed), m.draws(seed));
            }
            case "next" -> due("next(" + (k == 0) + ")", x.next(k == 0), m.bootOf(m.state, k == 0));
            case "cuts" -> {
                int deed = one(20) ? below(11) - 2 : below(7);
                int first = deed == 0 || deed == 2 || deed == 4 ? a : one(20) ? 1 : 0;
                int second = deed == 2 || deed == 3 ? i : one(20) ? 1 : 0;
                for (int what = -1; what < 8; what++) {
                    due("cuts(" + deed + ", " + first + ", " + second + ", " + what + ")",
                        x.cuts(deed, first, second, what), m.cuts(deed, first, second, what));
                }
            }
            case "twice" -> {
                int deed = one(20) ? below(11) - 2 : below(7);
                int first = deed == 0 || deed == 2 || deed == 4 ? a : one(20) ? 1 : 0;
                int second = deed == 2 || deed == 3 ? i : one(20) ? 1 : 0;
                due("twice(" + deed + ", " + first + ", " + second + ")", x.twice(deed, first, second),
                    m.twice(deed, first, second));
            }
            case "lasts" -> {
                for (int what = -1; what < 3; what++) {
                    due("lasts(" + what + ")", x.lasts(what), m.lasts(what));
                }
            }
            case "slack" -> due("slack(" + (i - 1) + ")", x.slack(i - 1), m.slack(i - 1));
            case "frail" -> {
                for (int what = -1; what < 3; what++) {
                    due("frail(" + what + ")", x.frail(what), m.frail(what));
                }
            }
            case "route" -> {
                int version = one(10) ? below(34) - 2 : m.bundle.images.isEmpty() ? 3
                    : m.bundle.images.get(below(m.bundle.images.size())).version;
                int n = x.route(version, -1);
                due("route(" + version + ", -1)", n, m.route(version, -1));
                for (int step = -2; step <= Math.max(0, n); step++) {
                    due("route(" + version + ", " + step + ")", x.route(version, step), m.route(version, step));
                }
            }
            case "life" -> {
                int n = one(10) ? below(64) - 2 : 1 + below(60);
                for (int what = -1; what < 7; what++) {
                    due("life(" + n + ", " + what + ")", x.life(n, what), m.life(n, what));
                }
            }
            case "least" -> {
                for (int what = -1; what < 3; what++) {
                    due("least(" + what + ")", x.least(what), m.least(what));
                }
            }
            case "why" -> due("why(" + (i - 1) + ")", x.why(i - 1), i < 1 || i > 4 ? -1 : m.why(m.state, i - 1));
            case "revoked" -> due("revoked(" + (i - 1) + ")", x.revoked(i - 1),
                i < 1 || i > m.bundle.keys.size() ? -1 : m.isRevoked(m.state, i - 1) ? 1 : 0);
            case "image" -> due("image(" + i + ", " + k + ")", x.image(i, k), m.image(i, k));
            case "feed" -> {
                int n = random.nextInt();
                due("feed", x.feed(n, n, -n, n + 1, 0), m.feed(n, n, -n, n + 1, 0));
                due("end(" + (k + i) + ")", x.end(k + i), m.end(k + i));
            }
            default -> wild();
        }
    }

    /** Any method with any numbers: what they answer is NONE, or as due. */
    private void wild() {
        int[] any = {Integer.MIN_VALUE, Integer.MAX_VALUE, -1, -2, 0, 1, 60, 300, random.nextInt()};
        int a = any[below(any.length)];
        int b = any[below(any.length)];
        int c = any[below(any.length)];
        due("flip", x.flip(a, b, c), m.flip(a, b, c));
        due("blot", x.blot(a, b, c), m.blot(a, b, c));
        due("install", x.install(a, b, c), m.act(2, a, b, c));
        due("refresh", x.refresh(a, c), m.act(3, 0, a, c));
        due("prefer", x.prefer(a, c), m.act(4, a, 0, c));
        due("waits", x.waits(a), m.waits(a));
        due("cuts", x.cuts(a, b, c, b), m.cuts(a, b, c, b));
        due("twice", x.twice(a, b, c), m.twice(a, b, c));
        due("route", x.route(a, b), m.route(a, b));
        due("life", x.life(a, b), m.life(a, b));
        due("image", x.image(a, b), m.image(a, b));
        due("started", x.started(a, b), m.started(a, b));
        due("end", x.end(a), m.end(a));
        due("factory", x.factory(a) ? 1 : 0, m.factory(a) ? 1 : 0);
        due("lasts", x.lasts(a), m.lasts(a));
        due("frail", x.frail(a), m.frail(a));
        due("slack", x.slack(a), m.slack(a));
        due("least", x.least(a), m.least(a));
        due("count", x.count(a), m.count(a));
        due("flag", x.flag(a, b), m.flag(a, b));
        due("boot", x.boot(false, a), m.act(0, 0, 0, a));
        due("health", x.health(a), m.act(1, 0, 0, a));
    }

    private void observe() {
        for (int store = -1; store < 5; store++) {
            for (int k = -1; k < 15; k++) {
                boolean is = store >= 0 && store < 4 && k >= 0 && k < 14;
                due("word(" + store + ", " + k + ")", x.word(store, k), is ? m.state.words[store][k] : -1);
            }
            due("why(" + store + ")", x.why(store), store < 0 || store > 3 ? -1 : m.why(m.state, store));
        }
        for (int page = -1; page < 3; page++) {
            for (int k = -1; k < 9; k++) {
                boolean is = page >= 0 && page < 2 && k >= 0 && k < 8;
                due("octet(" + page + ", " + k + ")", x.octet(page, k), is ? m.state.pages[page][k] : -1);
            }
            due("whole(" + page + ")", x.whole(page), page < 0 || page > 1 ? -1 : m.state.whole(page) ? 1 : 0);
        }
        for (int k = -1; k < 5; k++) {
            due("journal(" + k + ")", x.journal(k), k < 0 || k > 3 ? -1 : m.state.journal[k]);
        }
        for (int slot = -1; slot < 3; slot++) {
            for (int what = -1; what < 4; what++) {
                due("flag(" + slot + ", " + what + ")", x.flag(slot, what), m.flag(slot, what));
            }
        }
        for (int key = -1; key < 7; key++) {
            boolean is = key >= 0 && key < m.bundle.keys.size();
            due("revoked(" + key + ")", x.revoked(key), !is ? -1 : m.isRevoked(m.state, key) ? 1 : 0);
        }
        for (int k = -1; k < 14; k++) {
            due("started(" + k + ", 0)", x.started(k, 0), m.started(k, 0));
            due("started(" + k + ", 1)", x.started(k, 1), m.started(k, 1));
        }
        for (int what = -1; what < 21; what++) {
            due("count(" + what + ")", x.count(what), m.count(what));
        }
    }
}
