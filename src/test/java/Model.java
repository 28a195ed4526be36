import java.util.ArrayDeque;
import java.util.ArrayList;
import java.util.Arrays;
import java.util.HashSet;
import java.util.List;
import java.util.Objects;
import java.util.Set;
import java.util.function.Consumer;

/**
 * The document once more, in another way: states are copied whole, a deed is a list of writes of which a cut
 * does the first ones, stands of a route are texts. TwinSlots is held against it by FuzzTest.
 */
final class Model {
    static final int NONE = -1;

    static final class Key {
        int secret;
        int under;
    }

    static final class Image {
        int version;
        int key;
        List<Integer> revokes = new ArrayList<>();
        List<Integer> parts = new ArrayList<>();
    }

    static final class Fault extends Exception {
        private static final long serialVersionUID = 1L;
        final int number;

        Fault(int place, int what) {
            number = 8 * place + what;
        }
    }

    static final class Bundle {
        List<Key> keys = new ArrayList<>();
        List<Image> images = new ArrayList<>();
        int limit = 3;
        int tries = 3;
        int watch = 20;
        int lines;

        int[] words(int i) {
            Image image = images.get(i);
            int[] words = new int[14];
            words[0] = image.version + 1;
            words[1] = image.key;
            for (int key : image.revokes) {
                words[2] |= 1 << key;
            }
            words[3] = image.parts.size();
            words[4] = digest(image, 0);
            words[5] = sign(words);
            for (int p = 0; p < image.parts.size(); p++) {
                words[6 + 2 * p] = image.parts.get(p);
                words[7 + 2 * p] = digest(image, p + 1);
            }
            return words;
        }

        int digest(Image image, int p) {
            if (p >= image.parts.size()) {
                return 0;
            }
            return (int) (((image.parts.get(p) + 527L) * 31 + digest(image, p + 1)) % 65536);
        }

        int sign(int[] words) {
            long h = keys.get(words[1]).secret + 7;
            for (int k = 0; k <= 4; k++) {
                h = (h * 31 + words[k]) % 65536;
            }
            return (int) h;
        }
    }

    /** A token: w a word, n a number, e the end, or the byte itself. */
    record Token(char kind, int place, String text) {
    }

    static final class Parser {
        final List<Token> tokens = new ArrayList<>();
        int next;

        Parser(int[] bytes) {
            int at = 0;
            while (at < bytes.length) {
                int from = at;
                if (bytes[at] == 32) {
                    at++;
                } else if (bytes[at] >= 97 && bytes[at] <= 122) {
                    while (at < bytes.length && bytes[at] >= 97 && bytes[at] <= 122) {
                        at++;
                    }
                    tokens.add(new Token('w', from, text(bytes, from, at)));
                } else if (bytes[at] >= 48 && bytes[at] <= 57) {
                    while (at < bytes.length && bytes[at] >= 48 && bytes[at] <= 57) {
                        at++;
                    }
                    tokens.add(new Token('n', from, text(bytes, from, at)));
                } else {
                    at++;
                    tokens.add(new Token((char) bytes[from] == 'w' ? '?' : (char) bytes[from], from, ""));
                }
            }
            tokens.add(new Token('e', bytes.length, ""));
        }

        static String text(int[] bytes, int from, int to) {
            StringBuilder text = new StringBuilder();
            for (int i = from; i < to; i++) {
                text.append((char) bytes[i]);
            }
            return text.toString();
        }

        Token peek() {
            return tokens.get(next);
        }

        boolean isWord(String word) {
            return peek().kind == 'w' && peek().text.equals(word);
        }

        boolean isSign(char sign) {
            return sign != 'w' && sign != 'n' && sign != 'e' && peek().kind == sign && peek().text.isEmpty();
        }

        int number(int least, int most, Integer others, int limit) throws Fault {
            Token token = peek();
            if (token.kind != 'n' || token.text.isEmpty()) {
                throw new Fault(token.place, 1);
            }
            java.math.BigInteger value = new java.math.BigInteger(token.text);
            if (value.compareTo(java.math.BigInteger.valueOf(least)) < 0
                    || value.compareTo(java.math.BigInteger.valueOf(most)) > 0) {
                throw new Fault(token.place, 2);
            }
            if (others >= limit) {
                throw new Fault(token.place, 4);
            }
            next++;
            return value.intValue();
        }

        Bundle bundle() throws Fault {
            Bundle bundle = new Bundle();
            Set<String> once = new HashSet<>();
            while (true) {
                line(bundle, once);
                bundle.lines++;
                if (peek().kind == 'e') {
                    return bundle;
                }
                if (!isSign(';')) {
                    throw new Fault(peek().place, 1);
                }
                next++;
            }
        }

        void line(Bundle bundle, Set<String> once) throws Fault {
            Token first = peek();
            String word = first.kind == 'w' ? first.text : "";
            next++;
            switch (word) {
                case "key" -> key(bundle, first);
                case "image" -> image(bundle, first);
                case "limit", "tries", "watch" -> {
                    if (!once.add(word)) {
                        throw new Fault(first.place, 3);
                    }
                    int most = word.equals("limit") ? 9 : word.equals("tries") ? 7 : 99;
                    int value = number(1, most, 0, 1);
                    if (word.equals("limit")) {
                        bundle.limit = value;
                    } else if (word.equals("tries")) {
                        bundle.tries = value;
                    } else {
                        bundle.watch = value;
                    }
                }
                default -> throw new Fault(first.place, 1);
            }
        }

        void key(Bundle bundle, Token first) throws Fault {
            if (bundle.keys.size() == 6) {
                throw new Fault(first.place, 3);
            }
            Key key = new Key();
            key.secret = number(0, 9999, 0, 1);
            key.under = NONE;
            if (isWord("under")) {
                next++;
                key.under = number(0, bundle.keys.size() - 1, 0, 1);
            }
            bundle.keys.add(key);
        }

        void image(Bundle bundle, Token first) throws Fault {
            if (bundle.images.size() == 6) {
                throw new Fault(first.place, 3);
            }
            Image image = new Image();
            image.version = number(0, 30, 0, 1);
            image.key = number(0, bundle.keys.size() - 1, 0, 1);
            if (isWord("revokes")) {
                do {
                    next++;
                    image.revokes.add(number(0, bundle.keys.size() - 1, image.revokes.size(), 4));
                } while (isSign(','));
            }
            if (!isWord("parts")) {
                throw new Fault(peek().place, 1);
            }
            next++;
            do {
                image.parts.add(number(0, 99999, image.parts.size(), 4));
            } while (peek().kind == 'n' && !peek().text.isEmpty());
            bundle.images.add(image);
        }
    }

    static final class Flags {
        int[] priority = new int[2];
        int[] tries = new int[2];
        boolean[] good = new boolean[2];
        int failures;
        int last = 3;

        String text() {
            return Arrays.toString(priority) + Arrays.toString(tries) + Arrays.toString(good) + failures + "/" + last;
        }
    }

    static final class State {
        int[][] words = new int[4][14];
        int[][] pages = new int[2][8];
        int[] journal = {255, 255, 255, 255};
        boolean[] versionFuses = new boolean[31];
        boolean[] keyFuses = new boolean[6];
        int running = NONE;
        int ticks;
        boolean told;
        int writes;
        List<int[]> starts = new ArrayList<>();

        State() {
            Arrays.fill(pages[0], 255);
            Arrays.fill(pages[1], 255);
        }

        State copy() {
            State s = new State();
            for (int i = 0; i < 4; i++) {
                s.words[i] = words[i].clone();
            }
            s.pages[0] = pages[0].clone();
            s.pages[1] = pages[1].clone();
            s.journal = journal.clone();
            s.versionFuses = versionFuses.clone();
            s.keyFuses = keyFuses.clone();
            s.running = running;
            s.ticks = ticks;
            s.told = told;
            s.writes = writes;
            s.starts = new ArrayList<>(starts);
            return s;
        }

        int rollback() {
            int blown = 0;
            for (boolean fuse : versionFuses) {
                blown += fuse ? 1 : 0;
            }
            return blown;
        }

        boolean whole(int p) {
            int[] b = pages[p];
            int check = b[0] + 2 * b[1] + 3 * b[2] + 4 * b[3] + 5 * b[4] + 6 * b[5];
            return b[0] == 165 && b[6] == check / 256 && b[7] == check % 256;
        }

        int newest() {
            if (!whole(0)) {
                return whole(1) ? 1 : NONE;
            }
            return whole(1) && pages[1][1] == (pages[0][1] + 1) % 256 ? 1 : 0;
        }

        Flags flags() {
            Flags f = new Flags();
            int p = newest();
            if (p != NONE) {
                for (int slot = 0; slot < 2; slot++) {
                    int b = pages[p][2 + slot];
                    f.priority[slot] = b / 16;
                    f.tries[slot] = b % 16 / 2;
                    f.good[slot] = b % 2 == 1;
                }
                f.failures = pages[p][4];
                f.last = pages[p][5];
            }
            return f;
        }
    }

    /** A deed that is planned: its writes, what it answers, and what follows the last write. */
    static final class Plan {
        final State at;
        final List<Consumer<State>> writes = new ArrayList<>();
        int answer;
        Consumer<State> then = s -> { };

        Plan(State at) {
            this.at = at.copy();
        }

        void write(Consumer<State> write) {
            write.accept(at);
            writes.add(write);
        }

        void flags(Flags f) {
            int newest = at.newest();
            int page = newest == 0 ? 1 : 0;
            int[] b = new int[8];
            b[0] = 165;
            b[1] = newest == NONE ? 0 : (at.pages[newest][1] + 1) % 256;
            b[2] = 16 * f.priority[0] + 2 * f.tries[0] + (f.good[0] ? 1 : 0);
            b[3] = 16 * f.priority[1] + 2 * f.tries[1] + (f.good[1] ? 1 : 0);
            b[4] = f.failures;
            b[5] = f.last;
            int check = 0;
            for (int k = 0; k < 6; k++) {
                check += b[k] * (k + 1);
            }
            b[6] = check / 256;
            b[7] = check % 256;
            write(s -> Arrays.fill(s.pages[page], 255));
            for (int k = 0; k < 8; k++) {
                int place = k;
                write(s -> s.pages[page][place] = b[place]);
            }
        }

        void lay(int store, int[] words) {
            write(s -> s.words[store][0] = 0);
            for (int k = 13; k >= 1; k--) {
                int place = k;
                write(s -> s.words[store][place] = words[place]);
            }
            write(s -> s.words[store][0] = words[0]);
        }

        void journal(int place, int value) {
            write(s -> s.journal[place] = value);
        }
    }

    int[] tape = new int[0];
    Bundle bundle = new Bundle();
    State state = new State();
    final ArrayDeque<State> past = new ArrayDeque<>();
    int x;

    // ---- tape and bundle

    int feed(int a, int b, int c, int d, int e) {
        if (tape.length + 20 > 300) {
            return NONE;
        }
        int from = tape.length;
        tape = Arrays.copyOf(tape, from + 20);
        int[] numbers = {a, b, c, d, e};
        for (int i = 0; i < 20; i++) {
            tape[from + i] = (int) ((numbers[i / 4] & 0xffffffffL) >> (24 - 8 * (i % 4))) & 255;
        }
        return tape.length;
    }

    int end(int n) {
        if (n < 0 || n > tape.length) {
            return NONE;
        }
        tape = Arrays.copyOf(tape, n);
        return n;
    }

    int bundle() {
        int[] text = tape;
        tape = new int[0];
        try {
            bundle = new Parser(text).bundle();
            past.clear();
            return bundle.lines;
        } catch (Fault fault) {
            return -2 - fault.number;
        }
    }

    int image(int image, int k) {
        return hasImage(image) && k >= 0 && k < 14 ? bundle.words(image)[k] : NONE;
    }

    boolean hasImage(int image) {
        return image >= 0 && image < bundle.images.size();
    }

    // ---- why a store cannot start

    boolean isRevoked(State s, int key) {
        return s.keyFuses[key] || bundle.keys.get(key).under != NONE && isRevoked(s, bundle.keys.get(key).under);
    }

    int why(State s, int store) {
        int[] w = s.words[store];
        if (w[0] < 1 || w[0] > 31 || w[1] >= bundle.keys.size() || w[3] < 1 || w[3] > 4) {
            return 1;
        }
        if (w[5] != bundle.sign(w)) {
            return 2;
        }
        if (store < 2 && isRevoked(s, w[1])) {
            return 3;
        }
        if (store < 2 && w[0] - 1 < s.rollback()) {
            return 4;
        }
        if (store >= 2 && w[1] != 0) {
            return 3;
        }
        // The digests from the last part on, each told ahead of its part.
        int n = w[3];
        if (w[5 + 2 * n] != 0) {
            return 5;
        }
        long d = 0;
        for (int p = n - 1; p >= 0; p--) {
            d = ((w[6 + 2 * p] + 527L) * 31 + d) % 65536;
            int told = p == 0 ? w[4] : w[5 + 2 * p];
            if (told != d) {
                return 5;
            }
        }
        return 0;
    }

    int recovery(State s) {
        boolean two = why(s, 2) == 0;
        boolean three = why(s, 3) == 0;
        if (two && three) {
            return s.words[3][0] > s.words[2][0] ? 3 : 2;
        }
        return two ? 2 : three ? 3 : NONE;
    }

    // ---- deeds

    boolean journalOpen(State s) {
        int[] j = s.journal;
        return j[2] == 90 && j[3] == (j[0] + j[1] + j[2]) % 256 && j[0] <= 1 && hasImage(j[1]);
    }

    boolean able(State s, int deed, int a, int b) {
        boolean on = s.running != NONE;
        boolean slot = a == 0 || a == 1;
        return switch (deed) {
            case 0 -> !on && slot && b == 0;
            case 1, 5 -> on && a == 0 && b == 0;
            case 2 -> on && slot && s.running != a && hasImage(b);
            case 3 -> on && a == 0 && hasImage(b) && bundle.images.get(b).key == 0;
            case 4 -> on && slot && b == 0;
            case 6 -> on && a == 0 && b == 0 && journalOpen(s) && s.journal[0] != s.running;
            default -> false;
        };
    }

    Plan plan(State s, int deed, int a, int b) {
        Plan plan = new Plan(s);
        switch (deed) {
            case 0 -> planBoot(plan, a == 1);
            case 1 -> planHealth(plan);
            case 2 -> {
                plan.journal(2, 0);
                plan.journal(0, a);
                plan.journal(1, b);
                plan.journal(3, (a + b + 90) % 256);
                plan.journal(2, 90);
                planResume(plan, a, b);
            }
            case 3 -> {
                plan.answer = recovery(s) == 2 ? 3 : 2;
                plan.lay(plan.answer, bundle.words(b));
            }
            case 4 -> {
                Flags f = s.flags();
                f.priority[a] = 15;
                f.priority[1 - a] = Math.min(14, f.priority[1 - a]);
                plan.flags(f);
                plan.answer = f.priority[1 - a];
            }
            case 5 -> {
                if (s.whole(0) ^ s.whole(1)) {
                    plan.flags(s.flags());
                    plan.answer = 1;
                }
                if (why(s, 2) == 0 ^ why(s, 3) == 0) {
                    int sound = why(s, 2) == 0 ? 2 : 3;
                    plan.lay(5 - sound, s.words[sound].clone());
                    plan.answer += 2;
                }
            }
            default -> planResume(plan, s.journal[0], s.journal[1]);
        }
        return plan;
    }

    void planBoot(Plan plan, boolean button) {
        while (!button && plan.at.flags().failures < bundle.limit) {
            Flags f = plan.at.flags();
            int choice = NONE;
            for (int slot = 0; slot < 2; slot++) {
                if (f.priority[slot] > 0 && (f.good[slot] || f.tries[slot] > 0)
                        && (choice == NONE || f.priority[slot] > f.priority[choice])) {
                    choice = slot;
                }
            }
            if (choice == NONE) {
                break;
            }
            if (why(plan.at, choice) == 0) {
                f.tries[choice] -= f.good[choice] ? 0 : 1;
                f.failures = Math.min(255, f.failures + 1);
                planStart(plan, f, choice, plan.at.words[choice][0] - 1);
                return;
            }
            f.priority[choice] = 0;
            f.tries[choice] = 0;
            f.good[choice] = false;
            plan.flags(f);
        }
        int copy = recovery(plan.at);
        plan.answer = 3;
        if (copy != NONE) {
            planStart(plan, plan.at.flags(), 2, plan.at.words[copy][0] - 1);
        }
    }

    void planStart(Plan plan, Flags f, int what, int version) {
        f.last = what;
        plan.flags(f);
        plan.answer = what;
        plan.then = s -> {
            s.running = what;
            s.ticks = 0;
            s.told = false;
            s.starts.add(0, new int[] {what, version});
        };
    }

    void planHealth(Plan plan) {
        int running = plan.at.running;
        Flags f = plan.at.flags();
        f.failures = 0;
        if (running < 2) {
            f.good[running] = true;
            f.tries[running] = bundle.tries;
        }
        plan.flags(f);
        if (running < 2) {
            int version = plan.at.words[running][0] - 1;
            for (int fuse = 0; fuse < 31 && plan.at.rollback() < version; fuse++) {
                int blown = fuse;
                if (!plan.at.versionFuses[fuse]) {
                    plan.write(s -> s.versionFuses[blown] = true);
                }
            }
            for (int key = 0; key < 6; key++) {
                int blown = key;
                if (plan.at.words[running][2] / (1 << key) % 2 == 1 && !plan.at.keyFuses[key]) {
                    plan.write(s -> s.keyFuses[blown] = true);
                }
            }
        }
        plan.answer = plan.at.rollback();
        plan.then = s -> s.told = true;
    }

    void planResume(Plan plan, int slot, int image) {
        Flags f = plan.at.flags();
        f.priority[slot] = 0;
        f.tries[slot] = 0;
        f.good[slot] = false;
        plan.flags(f);
        plan.lay(slot, bundle.words(image));
        f.priority[slot] = 15;
        f.tries[slot] = bundle.tries;
        f.priority[1 - slot] = Math.min(14, f.priority[1 - slot]);
        plan.flags(f);
        plan.journal(2, 0);
        plan.answer = plan.writes.size();
    }

    int perform(State s, int deed, int a, int b, int cut) {
        Plan plan = plan(s, deed, a, b);
        int writes = plan.writes.size();
        int done = cut == NONE ? writes : Math.min(cut, writes);
        for (int n = 0; n < done; n++) {
            plan.writes.get(n).accept(s);
        }
        s.writes = done;
        if (done < writes) {
            s.running = NONE;
            return -2;
        }
        plan.then.accept(s);
        return plan.answer;
    }

    // ---- acts

    void keep() {
        past.push(state.copy());
        if (past.size() > 12) {
            past.removeLast();
        }
    }

    int act(int deed, int a, int b, int cut) {
        if (cut < -1 || !able(state, deed, a, b)) {
            return NONE;
        }
        keep();
        return perform(state, deed, a, b, cut);
    }

    boolean factory(int image) {
        if (state.running != NONE || !hasImage(image) || bundle.images.get(image).key != 0) {
            return false;
        }
        keep();
        state.words[2] = bundle.words(image);
        state.words[3] = bundle.words(image);
        return true;
    }

    int waits(int n) {
        if (n < 1 || n > 200 || state.running == NONE) {
            return NONE;
        }
        keep();
        int boots = 0;
        while (n > 0 && state.running != NONE) {
            n--;
            state.ticks++;
            if (state.running < 2 && !state.told && state.ticks >= bundle.watch) {
                state.running = NONE;
                boots++;
                perform(state, 0, 0, 0, NONE);
                state.ticks = 0;
            }
        }
        return boots;
    }

    boolean off() {
        if (state.running == NONE) {
            return false;
        }
        keep();
        state.running = NONE;
        return true;
    }

    int flip(int store, int word, int bit) {
        if (store < 0 || store > 3 || word < 0 || word > 13 || bit < 0 || bit > 30) {
            return NONE;
        }
        keep();
        return state.words[store][word] ^= 1 << bit;
    }

    int blot(int page, int place, int bit) {
        if (page < 0 || page > 1 || place < 0 || place > 7 || bit < 0 || bit > 7) {
            return NONE;
        }
        keep();
        return state.pages[page][place] ^= 1 << bit;
    }

    int undo() {
        if (past.isEmpty()) {
            return NONE;
        }
        state = past.pop();
        return past.size();
    }

    // ---- what is asked

    int bootOf(State s, boolean button) {
        State t = s.copy();
        t.running = NONE;
        return perform(t, 0, button ? 1 : 0, 0, NONE);
    }

    int cuts(int deed, int a, int b, int what) {
        if (what < 0 || what > 6 || !able(state, deed, a, b)) {
            return NONE;
        }
        State behind = state.copy();
        perform(behind, deed, a, b, NONE);
        int[] counts = new int[7];
        counts[0] = behind.writes;
        for (int n = 0; n < counts[0]; n++) {
            State s = state.copy();
            perform(s, deed, a, b, n);
            counts[1 + bootOf(s, false)]++;
            counts[5] += s.flags().text().equals(state.flags().text()) ? 1 : 0;
            counts[6] += s.flags().text().equals(behind.flags().text()) ? 1 : 0;
        }
        return counts[what];
    }

    int twice(int deed, int a, int b) {
        if (!able(state, deed, a, b)) {
            return NONE;
        }
        int w = plan(state, deed, a, b).writes.size();
        int twos = 0;
        for (int n = 0; n < w; n++) {
            State s = state.copy();
            perform(s, deed, a, b, n);
            int v = plan(s, 0, 0, 0).writes.size();
            for (int m = 0; m < v; m++) {
                State t = s.copy();
                perform(t, 0, 0, 0, m);
                twos += bootOf(t, false) == 3 ? 1 : 0;
            }
        }
        return twos;
    }

    int lasts(int what) {
        if (what != 0 && what != 1) {
            return NONE;
        }
        State s = state.copy();
        for (int n = 1; n <= 60; n++) {
            s.running = NONE;
            int start = perform(s, 0, 0, 0, NONE);
            if (start == 2 || start == 3) {
                return what == 0 ? n : start;
            }
        }
        return -2;
    }

    int slack(int store) {
        if (store < 0 || store > 3) {
            return NONE;
        }
        int bits = 0;
        for (int n = 0; n < 14 * 31; n++) {
            State s = state.copy();
            s.words[store][n / 31] ^= 1 << n % 31;
            bits += why(s, store) == 0 ? 1 : 0;
        }
        return bits;
    }

    int frail(int what) {
        if (what != 0 && what != 1) {
            return NONE;
        }
        int bits = 0;
        for (int n = 0; n < 128; n++) {
            State s = state.copy();
            s.pages[n / 64][n / 8 % 8] ^= 1 << n % 8;
            if (what == 0) {
                bits += bootOf(s, false) != bootOf(state, false) ? 1 : 0;
            } else {
                bits += s.flags().text().equals(state.flags().text()) ? 0 : 1;
            }
        }
        return bits;
    }

    String stand(State s) {
        return Arrays.deepToString(s.words) + s.flags().text() + Arrays.toString(s.versionFuses)
            + Arrays.toString(s.keyFuses) + s.running + (s.running == NONE ? "" : s.told);
    }

    boolean isThere(State s, int version) {
        return s.running >= 0 && s.running < 2 && s.told && s.words[s.running][0] - 1 == version;
    }

    record Way(State state, List<Integer> moves) {
    }

    /** The moves, or null; unknown tells why. */
    List<Integer> way(int version, boolean[] unknown) {
        if (isThere(state, version)) {
            return List.of();
        }
        List<Way> ways = new ArrayList<>(List.of(new Way(state.copy(), List.of())));
        Set<String> seen = new HashSet<>(Set.of(stand(state)));
        for (int i = 0; i < ways.size(); i++) {
            Way way = ways.get(i);
            List<Integer> moves = new ArrayList<>(List.of(0, 1, 2));
            for (int slot = 0; slot < 2; slot++) {
                for (int image = 0; image < bundle.images.size(); image++) {
                    moves.add(100 + 10 * slot + image);
                }
            }
            for (int move : moves) {
                State s = way.state.copy();
                if (!move(s, move)) {
                    continue;
                }
                List<Integer> longer = new ArrayList<>(way.moves);
                longer.add(move);
                if (isThere(s, version)) {
                    return longer;
                }
                if (seen.contains(stand(s))) {
                    continue;
                }
                if (ways.size() == 300) {
                    unknown[0] = true;
                    return null;
                }
                seen.add(stand(s));
                ways.add(new Way(s, longer));
            }
        }
        return null;
    }

    boolean move(State s, int move) {
        if (move == 0) {
            boolean on = s.running != NONE;
            s.running = NONE;
            return on;
        }
        int deed = move == 1 ? 0 : move == 2 ? 1 : 2;
        int a = deed == 2 ? (move - 100) / 10 : 0;
        int b = deed == 2 ? (move - 100) % 10 : 0;
        if (!able(s, deed, a, b)) {
            return false;
        }
        perform(s, deed, a, b, NONE);
        return true;
    }

    int route(int version, int k) {
        if (version < 0 || version > 30 || k < -1) {
            return NONE;
        }
        boolean[] unknown = new boolean[1];
        List<Integer> way = way(version, unknown);
        if (way == null) {
            return unknown[0] ? -3 : -2;
        }
        return k == NONE ? way.size() : k < way.size() ? way.get(k) : -2;
    }

    int draws(int x) {
        if (x < 0) {
            return NONE;
        }
        int before = this.x;
        this.x = x;
        return before;
    }

    private int drawn;

    int draw(int k) {
        drawn = java.math.BigInteger.valueOf(drawn).multiply(java.math.BigInteger.valueOf(1103515245))
            .add(java.math.BigInteger.valueOf(12345)).mod(java.math.BigInteger.valueOf(2147483648L)).intValue();
        return drawn / 65536 % k;
    }

    int drawCut() {
        int c = draw(20);
        return c == 19 ? NONE : 3 * c;
    }

    int life(int n, int what) {
        if (n < 1 || n > 60 || what < 0 || what > 5 || bundle.images.isEmpty()) {
            return NONE;
        }
        int[] told = new int[6];
        State s = state.copy();
        s.starts.clear();
        drawn = x;
        for (int i = 0; i < n; i++) {
            int answer = lifeDeed(s);
            told[2] += answer == 3 ? 1 : 0;
            told[3] += answer == -2 ? 1 : 0;
        }
        told[0] = s.starts.size();
        told[4] = s.rollback();
        for (int[] start : s.starts) {
            told[1] += start[0] == 2 ? 1 : 0;
            told[5] += start[0] < 2 && start[1] < told[4] ? 1 : 0;
        }
        return told[what];
    }

    /** 3: a boot that started nothing, -2: power failed, else something else. */
    int lifeDeed(State s) {
        int images = bundle.images.size();
        if (s.running == NONE) {
            int button = draw(4) == 0 ? 1 : 0;
            return perform(s, 0, button, 0, drawCut());
        }
        int kind = draw(8);
        if (kind == 5) {
            s.running = NONE;
            return NONE;
        }
        int deed = kind <= 1 ? 1 : kind <= 3 ? 2 : kind == 4 ? 3 : kind == 6 ? 5 : 6;
        int a = deed == 2 ? draw(2) : 0;
        int b = deed == 2 || deed == 3 ? draw(images) : 0;
        int cut = drawCut();
        int answer = able(s, deed, a, b) ? perform(s, deed, a, b, cut) : NONE;
        return answer == -2 ? -2 : NONE;
    }

    int started(int k, int what) {
        boolean is = k >= 0 && k < 12 && k < state.starts.size() && what >= 0 && what <= 1;
        return is ? state.starts.get(k)[what] : NONE;
    }

    int least(int what) {
        if (what != 0 && what != 1) {
            return NONE;
        }
        List<Integer> versions = new ArrayList<>();
        for (int slot = 0; slot < 2; slot++) {
            if (why(state, slot) == 0) {
                versions.add(state.words[slot][0] - 1);
            }
        }
        versions.sort(null);
        return versions.isEmpty() ? -2 : versions.get(what == 0 ? 0 : versions.size() - 1);
    }

    int flag(int slot, int what) {
        if (slot < 0 || slot > 1 || what < 0 || what > 2) {
            return NONE;
        }
        Flags f = state.flags();
        return what == 0 ? f.priority[slot] : what == 1 ? f.tries[slot] : f.good[slot] ? 1 : 0;
    }

    int count(int what) {
        Flags f = state.flags();
        int bits = 0;
        for (int key = 0; key < 6; key++) {
            bits += state.keyFuses[key] ? 1 << key : 0;
        }
        int newest = state.newest();
        List<Integer> counts = Arrays.asList(bundle.keys.size(), bundle.images.size(), bundle.limit, bundle.tries,
            state.rollback(), bits, state.running, f.failures, f.last, newest,
            newest == NONE ? NONE : state.pages[newest][1], past.size(), x, tape.length, state.writes, bundle.watch,
            state.ticks, state.told ? 1 : 0, journalOpen(state) ? 1 : 0);
        return what >= 0 && what < counts.size() ? Objects.requireNonNull(counts.get(what)) : NONE;
    }
}
