/** The edges that the first Terms and promises 1 to 5 name: the tape, the text, the images' words. */
public final class TextEdgesTest extends Checks {
    private static final int NO_BYTE = 1;
    private static final int NO_SUCH_NUMBER = 2;
    private static final int ONE_LINE_TOO_MANY = 3;
    private static final int ONE_NUMBER_TOO_MANY = 4;

    public static void main(String[] args) {
        runAll(TextEdgesTest.class);
    }

    // ---- 1 to 3: a new object, the tape

    static void newObjectHasNoKeys() {
        says(1, "No KEYS, no IMAGES.");
        TwinSlots x = new TwinSlots();
        due("count(0)", x.count(0), 0);
        due("count(1)", x.count(1), 0);
        due("revoked(0)", x.revoked(0), NONE);
        due("image(0, 0)", x.image(0, 0), NONE);
        due("factory(0)", x.factory(0), false);
    }

    static void newObjectsAreApart() {
        says(1, "No KEYS, no IMAGES.");
        TwinSlots first = inSlotA();
        due("the first one has keys", first.count(0), 3);
        TwinSlots x = new TwinSlots();
        due("count(0)", x.count(0), 0);
        due("count(6)", x.count(6), NONE);
        due("count(9)", x.count(9), NONE);
        due("word(0, 0)", x.word(0, 0), 0);
    }

    static void newObjectCounts() {
        says(1, "limit: 1 to 9 (3 without), tries: 1 to 7 (3 without), watch: 1 to 99 (20 without)");
        TwinSlots x = new TwinSlots();
        due("limit", x.count(2), 3);
        due("tries", x.count(3), 3);
        due("watch", x.count(15), 20);
    }

    static void feedsFillTheTape() {
        says(2, "NONE, and none comes, if it would have more than 300");
        TwinSlots x = new TwinSlots();
        for (int n = 20; n <= 300; n += 20) {
            due("feed", x.feed(0, 0, 0, 0, 0), n);
        }
        due("a sixteenth feed", x.feed(0, 0, 0, 0, 0), NONE);
        due("bytes of the tape", x.count(13), 300);
        due("again", x.feed(0, 0, 0, 0, 0), NONE);
        due("bytes of the tape", x.count(13), 300);
    }

    static void feedsFromEachLength() {
        says(2, "NONE, and none comes, if it would have more than 300");
        TwinSlots x = new TwinSlots();
        for (int n = 0; n < 15; n++) {
            x.feed(0, 0, 0, 0, 0);
        }
        for (int n = 299; n > 280; n--) {
            due("end", x.end(n), n);
            due("feed behind " + n, x.feed(0, 0, 0, 0, 0), NONE);
            due("bytes of the tape", x.count(13), n);
        }
        due("end", x.end(280), 280);
        due("feed behind 280", x.feed(0, 0, 0, 0, 0), 300);
    }

    static void refusedFeedLeavesTheTape() {
        says(2, "NONE, and none comes, if it would have more than 300");
        StringBuilder text = new StringBuilder("key 1;key 2 under 0;limit 9");
        while (text.length() < 281) {
            text.append(' ');
        }
        TwinSlots x = new TwinSlots();
        feed(x, text.toString());
        due("feed", x.feed(-1, -1, -1, -1, -1), NONE);
        due("bundle()", x.bundle(), 3);
        due("limit", x.count(2), 9);
    }

    static void feedOfBytesHighestFirst() {
        says(2, "Twenty bytes come behind the TAPE, of each number the highest first");
        TwinSlots x = new TwinSlots();
        due("feed", x.feed(0x6b657939, 0x3b6b6579, 0x38203b20, 0x6c696d69, 0x7437203b), 20);
        due("feed", x.feed(0x20207761, 0x74636820, 0x39392020, 0x20202020, 0x20202020), 40);
        due("bundle()", x.bundle(), 4);
        due("keys", x.count(0), 2);
        due("limit", x.count(2), 7);
        due("watch", x.count(15), 99);
    }

    static void feedOfNumbersBelowZero() {
        says(2, "Twenty bytes come behind the TAPE, of each number the highest first");
        // Of each number the last byte is the first one that is no blank: none of 255 may come ahead of it.
        for (int k = 0; k < 20; k++) {
            int[] n = {0x20202020, 0x20202020, 0x20202020, 0x20202020, 0x20202020};
            n[k / 4] = 0x20202020 | 255 << (24 - 8 * (k % 4));
            TwinSlots x = new TwinSlots();
            x.feed(n[0], n[1], n[2], n[3], n[4]);
            due("255 at " + k, x.bundle(), -2 - (8 * k + NO_BYTE));
        }
        TwinSlots x = new TwinSlots();
        due("feed", x.feed(Integer.MIN_VALUE, Integer.MIN_VALUE, -1, -1, -1), 20);
        due("bundle()", x.bundle(), -2 - NO_BYTE);
    }

    static void endsOfAnEmptyTape() {
        says(3, "NONE, and nothing happens, if it has not so many, or n is below 0");
        TwinSlots x = new TwinSlots();
        due("end(0)", x.end(0), 0);
        due("end(1)", x.end(1), NONE);
        due("end(-1)", x.end(-1), NONE);
        due("bytes of the tape", x.count(13), 0);
    }

    static void endsOfATape() {
        says(3, "NONE, and nothing happens, if it has not so many, or n is below 0");
        TwinSlots x = new TwinSlots();
        x.feed(0, 0, 0, 0, 0);
        due("end(21)", x.end(21), NONE);
        due("end(-1)", x.end(-1), NONE);
        for (int n : FAR) {
            due("end(" + n + ")", x.end(n), NONE);
        }
        due("bytes of the tape", x.count(13), 20);
        due("end(20)", x.end(20), 20);
        due("bytes of the tape", x.count(13), 20);
        due("end(19)", x.end(19), 19);
        due("end(20) of 19", x.end(20), NONE);
        due("end(0)", x.end(0), 0);
        due("end(1) of none", x.end(1), NONE);
        due("bytes of the tape", x.count(13), 0);
    }

    static void endOfAFullTape() {
        says(3, "The TAPE has its first n bytes alone: n");
        TwinSlots x = new TwinSlots();
        for (int n = 0; n < 15; n++) {
            x.feed(0x6b657931, 0x20202020, 0x20202020, 0x20202020, 0x2020203b);
        }
        due("end(301)", x.end(301), NONE);
        due("end(300)", x.end(300), 300);
        due("end(119)", x.end(119), 119);
        due("bundle()", x.bundle(), 6);
    }

    static void feedBehindAnEnd() {
        says(3, "The TAPE has its first n bytes alone: n");
        TwinSlots x = new TwinSlots();
        x.feed(0x6b657931, 0x3b3b3b3b, 0x3b3b3b3b, 0x3b3b3b3b, 0x3b3b3b3b);
        due("end(5)", x.end(5), 5);
        due("feed", x.feed(0x6b657932, 0x20202020, 0x20202020, 0x20202020, 0x20202020), 25);
        due("bundle()", x.bundle(), 2);
        due("keys", x.count(0), 2);
    }

    // ---- 4: the text as a whole

    private static String wide(String text, int length) {
        StringBuilder wide = new StringBuilder(text);
        while (wide.length() < length) {
            wide.append(' ');
        }
        return wide.toString();
    }

    static void textOf300Bytes() {
        says(4, "a text of at most 300 bytes");
        lines(wide("key 1;limit 4", 300), 2);
        lines(wide("key 1;key 1 under", 299) + "0", 2);
        fault(wide("key 1;key 1 under", 299) + "1", 299, NO_SUCH_NUMBER);
        fault(wide("key 1", 299) + "x", 299, NO_BYTE);
        fault(wide("key 1;", 300), 300, NO_BYTE);
        fault(wide("", 300), 300, NO_BYTE);
    }

    static void longestText() {
        says(4, "how many LINES");
        String keys = "key 9999;key 9999 under 0;key 9999 under 1;key 1;key 2;key 3;";
        String images = "image 30 0 parts 1;".repeat(6);
        TwinSlots x = told(keys + images + "limit 9;tries 7;watch 99");
        due("keys", x.count(0), 6);
        due("images", x.count(1), 6);
        due("limit", x.count(2), 9);
        due("tries", x.count(3), 7);
        due("watch", x.count(15), 99);
        lines(keys + images + "limit 9;tries 7;watch 99", 15);
    }

    static void emptyText() {
        says(4, "the text ends (the place behind its last byte)");
        TwinSlots x = inSlotA();
        long before = seen(x);
        due("bundle() of an empty tape", x.bundle(), -2 - NO_BYTE);
        due("nothing happened", seen(x), before);
        due("and again", x.bundle(), -2 - NO_BYTE);
        due("it can be undone", x.undo() >= 0, true);
    }

    static void textOfOneLine() {
        says(4, "LINE { ; LINE }");
        lines("key 1", 1);
        lines("limit 1", 1);
        lines("tries 1", 1);
        lines("watch 1", 1);
        fault(";", 0, NO_BYTE);
        fault(";;", 0, NO_BYTE);
        fault(";key 1", 0, NO_BYTE);
        fault(" ;key 1", 1, NO_BYTE);
        fault("key 1;", 6, NO_BYTE);
        fault("key 1;  ", 8, NO_BYTE);
        fault("key 1;;key 1", 6, NO_BYTE);
        fault("key 1; ;key 1", 7, NO_BYTE);
        fault("key 1 ,key 1", 6, NO_BYTE);
        fault("key 1:key 1", 5, NO_BYTE);
    }

    static void wordsAsFarAsTheyGoOn() {
        says(4, "WORDS are small letters, as far as they go on");
        fault("keya 1", 0, NO_BYTE);
        fault("keyz 1", 0, NO_BYTE);
        fault("ke 1", 0, NO_BYTE);
        fault("k", 0, NO_BYTE);
        fault("keykey 1", 0, NO_BYTE);
        fault("key 1;imagea 0 0 parts 1", 6, NO_BYTE);
        fault("key 1;imag 0 0 parts 1", 6, NO_BYTE);
        fault("limits 1", 0, NO_BYTE);
        fault("limi 1", 0, NO_BYTE);
        fault("tryes 1", 0, NO_BYTE);
        fault("triess 1", 0, NO_BYTE);
        fault("watches 1", 0, NO_BYTE);
        fault("wat 1", 0, NO_BYTE);
        fault("key 1;key 1 underneath 0", 12, NO_BYTE);
        fault("key 1;key 1 unde 0", 12, NO_BYTE);
        fault("key 1;image 0 0 revoke 0 parts 1", 16, NO_BYTE);
        fault("key 1;image 0 0 revokesparts 1", 16, NO_BYTE);
        fault("key 1;image 0 0 part 1", 16, NO_BYTE);
        fault("key 1;image 0 0 partsx 1", 16, NO_BYTE);
    }

    static void bytesBesideTheLetters() {
        says(4, "WORDS are small letters, as far as they go on");
        // 96 and 123 stand beside a and z, 64 and 91 beside A and Z; none is a letter, so the WORD ends there.
        for (char beside : new char[] {96, 123, 64, 91, 'A', 'Z', '_', 225}) {
            fault("key" + beside + "1", 3, NO_BYTE);
            fault(beside + "key 1", 0, NO_BYTE);
            fault("key 1;key 1 under" + beside + "0", 17, NO_BYTE);
        }
        fault("Key 1", 0, NO_BYTE);
        fault("KEY 1", 0, NO_BYTE);
        fault("kEy 1", 0, NO_BYTE);
    }

    static void bytesBesideTheDigits() {
        says(4, "NUMBERS digits, as far as these go on");
        fault("key /", 4, NO_BYTE);
        fault("key :", 4, NO_BYTE);
        fault("key 1/", 5, NO_BYTE);
        fault("key 1:", 5, NO_BYTE);
        fault("key -1", 4, NO_BYTE);
        fault("key +1", 4, NO_BYTE);
        fault("key 1.0", 5, NO_BYTE);
        lines("key 0987", 1);
        lines("key 6543", 1);
        lines("key 21", 1);
    }

    static void numbersThatEndInAWord() {
        says(4, "blanks (32) stand between as one likes");
        lines("key1;key2under0;image0 1revokes0,1parts1 2 3 4;limit2;tries3;watch4", 6);
        fault("key 1 2", 6, NO_BYTE);
        fault("key 1x", 5, NO_BYTE);
        fault("limit 1 2", 8, NO_BYTE);
        fault("key 1;key 1 under 0 0", 20, NO_BYTE);
        fault("key 1;image 0 0 0 parts 1", 16, NO_BYTE);
        fault("key 1;image 0 0 revokes 0 0 parts 1", 26, NO_BYTE);
        fault("key 1;image 0 0 parts 1,2", 23, NO_BYTE);
    }

    static void blanksBetween() {
        says(4, "blanks (32) stand between as one likes");
        lines("   key   1   ;   key   2   under   0   ;  image  0  1  revokes  0  ,  1  parts  1  2  ;  limit  2  ", 4);
        for (char other : new char[] {0, 9, 10, 13, 31, 33, 127, 160, 255}) {
            fault("key" + other + "1", 3, NO_BYTE);
            fault(other + "key 1", 0, NO_BYTE);
            fault("key 1" + other, 5, NO_BYTE);
            fault("key 1 ;" + other + "key 1", 7, NO_BYTE);
        }
        fault("k ey 1", 0, NO_BYTE);
        TwinSlots x = told("key 1;image 1 0 parts 1 2");
        due("a blank ends a NUMBER", x.image(0, 3), 2);
        due("the first", x.image(0, 6), 1);
        due("the second", x.image(0, 8), 2);
    }

    static void textThatEnds() {
        says(4, "or the text ends (the place behind its last byte)");
        String text = "key 1;key 2 under 0;image 3 1 revokes 0 , 1 parts 7;watch 5";
        String[] tokens = {"key", "1", ";", "key", "2", "under", "0", ";", "image", "3", "1", "revokes", "0", ",", "1",
            "parts", "7", ";", "watch", "5"};
        int at = 0;
        for (int k = 0; k < tokens.length; k++) {
            at = text.indexOf(tokens[k], at) + tokens[k].length();
            String cut = text.substring(0, at);
            int lines = k == 1 ? 1 : k == 4 || k == 6 ? 2 : k == 16 ? 3 : k == 19 ? 4 : 0;
            if (lines > 0) {
                lines(cut, lines);
                lines(cut + " ", lines);
            } else {
                fault(cut, cut.length(), NO_BYTE);
                fault(cut + "  ", cut.length() + 2, NO_BYTE);
            }
        }
        due("no more of it", at, text.length());
    }

    // ---- 4: keys

    static void secrets() {
        says(4, "its SECRET (0 to 9999)");
        lines("key 0", 1);
        lines("key 9999", 1);
        lines("key 09999", 1);
        lines("key 000000000000000000000000000000", 1);
        fault("key 10000", 4, NO_SUCH_NUMBER);
        fault("key 010000", 4, NO_SUCH_NUMBER);
        fault("key 1;key 10000", 10, NO_SUCH_NUMBER);
    }

    static void numbersBeyondAnInt() {
        says(4, "a NUMBER (where it begins) that is not as told");
        for (String far : new String[] {"2147483647", "2147483648", "4294967295", "4294967296", "4294967297",
            "9223372036854775807", "18446744073709551617", "100000000000000000000000000000000000001"}) {
            fault("key " + far, 4, NO_SUCH_NUMBER);
            fault("key 1;key 1 under " + far, 18, NO_SUCH_NUMBER);
            fault("key 1;image " + far + " 0 parts 1", 12, NO_SUCH_NUMBER);
            fault("key 1;image 1 " + far + " parts 1", 14, NO_SUCH_NUMBER);
            fault("key 1;image 1 0 revokes " + far + " parts 1", 24, NO_SUCH_NUMBER);
            fault("key 1;image 1 0 parts " + far, 22, NO_SUCH_NUMBER);
            fault("limit " + far, 6, NO_SUCH_NUMBER);
            fault("tries " + far, 6, NO_SUCH_NUMBER);
            fault("watch " + far, 6, NO_SUCH_NUMBER);
        }
    }

    static void keysUnderKeys() {
        says(4, "the KEY (told ahead) it is UNDER");
        fault("key 1 under 0", 12, NO_SUCH_NUMBER);
        lines("key 1;key 1 under 0", 2);
        fault("key 1;key 1 under 1", 18, NO_SUCH_NUMBER);
        fault("key 1;key 1 under 1;key 1", 18, NO_SUCH_NUMBER);
        String six = "key 1;key 1;key 1;key 1;key 1;key 1 under ";
        lines(six + "4", 6);
        fault(six + "5", 42, NO_SUCH_NUMBER);
        fault(six + "6", 42, NO_SUCH_NUMBER);
    }

    static void sixKeys() {
        says(4, "a KEY (where the LINE begins) that would be the seventh");
        lines("key 1;".repeat(5) + "key 1", 6);
        fault("key 1;".repeat(6) + "key 1", 36, ONE_LINE_TOO_MANY);
        fault("key 1;".repeat(6) + "   key 1", 39, ONE_LINE_TOO_MANY);
        fault("key 1;".repeat(6) + "limit 1;key 1", 44, ONE_LINE_TOO_MANY);
        fault("key 1;".repeat(6) + "key", 36, ONE_LINE_TOO_MANY);
        fault("key 1;".repeat(6) + "key 10000", 36, ONE_LINE_TOO_MANY);
        fault("key 1;".repeat(6) + "keys", 36, NO_BYTE);
        fault("key 1;".repeat(6) + "ke", 36, NO_BYTE);
    }

    static void keysInTheOrderTold() {
        says(4, "KEYS 0 to 5 in the order told");
        StringBuilder text = new StringBuilder();
        for (int key = 0; key < 6; key++) {
            text.append("key ").append(100 * key).append(";image 0 ").append(key).append(" parts 1;");
        }
        TwinSlots x = told(text.substring(0, text.length() - 1));
        for (int key = 0; key < 6; key++) {
            due("the key of image " + key, x.image(key, 1), key);
            due("the sign of image " + key, x.image(key, 5), sign(100 * key, x, key));
        }
        due("revoked(5)", x.revoked(5), 0);
        due("revoked(6)", x.revoked(6), NONE);
    }

    private static int sign(int secret, TwinSlots x, int image) {
        long h = secret + 7;
        for (int k = 0; k < 5; k++) {
            h = (h * 31 + x.image(image, k)) % 65536;
        }
        return (int) h;
    }

    // ---- 4: images

    static void versions() {
        says(4, "VERSION (0 to 30)");
        lines("key 1;image 0 0 parts 1", 2);
        lines("key 1;image 30 0 parts 1", 2);
        fault("key 1;image 31 0 parts 1", 12, NO_SUCH_NUMBER);
        due("word 0 of version 30", told("key 1;image 30 0 parts 1").image(0, 0), 31);
        due("word 0 of version 0", told("key 1;image 0 0 parts 1").image(0, 0), 1);
    }

    static void keysOfImages() {
        says(4, "its KEY (told ahead)");
        fault("image 1 0 parts 1", 8, NO_SUCH_NUMBER);
        lines("key 1;image 1 0 parts 1", 2);
        fault("key 1;image 1 1 parts 1", 14, NO_SUCH_NUMBER);
        fault("key 1;image 1 1 parts 1;key 1", 14, NO_SUCH_NUMBER);
        lines("key 1;key 1;key 1;key 1;key 1;key 1;image 1 5 parts 1", 7);
        fault("key 1;key 1;key 1;key 1;key 1;key 1;image 1 6 parts 1", 44, NO_SUCH_NUMBER);
    }

    static void keysThatAreRevoked() {
        says(4, "KEYS it revokes (told ahead, 4 at most)");
        fault("key 1;image 1 0 revokes 1 parts 1", 24, NO_SUCH_NUMBER);
        fault("key 1;image 1 0 revokes 0,1 parts 1", 26, NO_SUCH_NUMBER);
        fault("key 1;image 1 0 revokes 1 parts 1;key 1", 24, NO_SUCH_NUMBER);
        fault("key 1;image 1 0 revokes parts 1", 24, NO_BYTE);
        fault("key 1;image 1 0 revokes , 0 parts 1", 24, NO_BYTE);
        fault("key 1;image 1 0 revokes 0 , parts 1", 28, NO_BYTE);
        fault("key 1;image 1 0 revokes 0,,0 parts 1", 26, NO_BYTE);
        due("none", told("key 1;image 1 0 parts 1").image(0, 2), 0);
        due("one", told("key 1;image 1 0 revokes 0 parts 1").image(0, 2), 1);
        String five = "key 1;key 1;key 1;key 1;key 1;key 1;image 1 0 revokes ";
        due("four", told(five + "5,4,3,2 parts 1").image(0, 2), 60);
        due("one four times", told(five + "5,5,5,5 parts 1").image(0, 2), 32);
    }

    static void fifthKeyThatIsRevoked() {
        says(4, "a fifth KEY that is revoked (where it begins)");
        String five = "key 1;key 1;key 1;key 1;key 1;key 1;image 1 0 revokes ";
        fault(five + "0,1,2,3,4 parts 1", five.length() + 8, ONE_NUMBER_TOO_MANY);
        fault(five + "0,1,2,3 ,  4 parts 1", five.length() + 11, ONE_NUMBER_TOO_MANY);
        fault(five + "0,0,0,0,0 parts 1", five.length() + 8, ONE_NUMBER_TOO_MANY);
        fault(five + "0,1,2,3, parts 1", five.length() + 9, NO_BYTE);
        fault(five + "0,1,2,3,", five.length() + 8, NO_BYTE);
        fault(five + "0,1,2,3,,", five.length() + 8, NO_BYTE);
    }

    static void parts() {
        says(4, "1 to 4 PARTS (0 to 99999 each)");
        fault("key 1;image 1 0 parts", 21, NO_BYTE);
        fault("key 1;image 1 0 parts;limit 1", 21, NO_BYTE);
        for (int parts = 1; parts <= 4; parts++) {
            due("parts", told("key 1;image 1 0 parts" + " 9".repeat(parts)).image(0, 3), parts);
        }
        lines("key 1;image 1 0 parts 0 99999 099999 0", 2);
        fault("key 1;image 1 0 parts 100000", 22, NO_SUCH_NUMBER);
        fault("key 1;image 1 0 parts 1 100000", 24, NO_SUCH_NUMBER);
        fault("key 1;image 1 0 parts 1 1 1 100000", 28, NO_SUCH_NUMBER);
    }

    static void fifthPart() {
        says(4, "a fifth PART");
        fault("key 1;image 1 0 parts 1 2 3 4 5", 30, ONE_NUMBER_TOO_MANY);
        fault("key 1;image 1 0 parts 1 2 3 4   5", 32, ONE_NUMBER_TOO_MANY);
        fault("key 1;image 1 0 parts 1 2 3 4 5x", 30, ONE_NUMBER_TOO_MANY);
        fault("key 1;image 1 0 parts 1 2 3 4 5 6", 30, ONE_NUMBER_TOO_MANY);
        fault("key 1;image 1 0 parts 1 2 3 4 x", 30, NO_BYTE);
        lines("key 1;image 1 0 parts 1 2 3 4 ;limit 1", 3);
    }

    static void sixImages() {
        says(4, "an IMAGE that would be the seventh");
        String six = "key 1;" + "image 1 0 parts 1;".repeat(6);
        lines(six.substring(0, six.length() - 1), 7);
        fault(six + "image 1 0 parts 1", six.length(), ONE_LINE_TOO_MANY);
        fault(six + "  image 1 0 parts 1", six.length() + 2, ONE_LINE_TOO_MANY);
        fault(six + "image", six.length(), ONE_LINE_TOO_MANY);
        fault(six + "image 31 9 parts", six.length(), ONE_LINE_TOO_MANY);
        fault(six + "key 2;image 1 0 parts 1", six.length() + 6, ONE_LINE_TOO_MANY);
        fault(six + "images", six.length(), NO_BYTE);
    }

    // ---- 4: limit, tries, watch

    private static void oneOf(String word, int most, int without, int what) {
        lines(word + " 1", 1);
        lines(word + " " + most, 1);
        fault(word + " 0", 6, NO_SUCH_NUMBER);
        fault(word + " 00", 6, NO_SUCH_NUMBER);
        fault(word + " " + (most + 1), 6, NO_SUCH_NUMBER);
        fault(word, 5, NO_BYTE);
        due(word + " without", told("key 1").count(what), without);
        due(word + " 1", told(word + " 1").count(what), 1);
        due(word + " at most", told("key 1;" + word + " " + most).count(what), most);
        TwinSlots x = told(word + " 1");
        tell(x, "key 1");
        due(word + " without, behind one that told it", x.count(what), without);
    }

    static void limits() {
        says(4, "limit: 1 to 9 (3 without)");
        oneOf("limit", 9, 3, 2);
    }

    static void triesOfABundle() {
        says(4, "tries: 1 to 7 (3 without)");
        oneOf("tries", 7, 3, 3);
    }

    static void watches() {
        says(4, "watch: 1 to 99 (20 without)");
        oneOf("watch", 99, 20, 15);
    }

    static void secondLimitTriesOrWatch() {
        says(4, "a second limit, tries or watch");
        for (String word : new String[] {"limit", "tries", "watch"}) {
            fault(word + " 1;" + word + " 1", 8, ONE_LINE_TOO_MANY);
            fault(word + " 1;" + word + " 0", 8, ONE_LINE_TOO_MANY);
            fault(word + " 1;" + word, 8, ONE_LINE_TOO_MANY);
            fault(word + " 1;  " + word + " 1", 10, ONE_LINE_TOO_MANY);
            fault(word + " 1;key 1;" + word + " 1", 14, ONE_LINE_TOO_MANY);
            fault(word + " 1;" + word + "s 1", 8, NO_BYTE);
        }
        lines("limit 1;tries 1;watch 1", 3);
        lines("watch 1;tries 1;limit 1", 3);
        TwinSlots x = told("limit 1;tries 1;watch 1");
        due("each bundle has its own", tell(x, "limit 2;tries 2;watch 2"), 3);
        due("limit", x.count(2), 2);
        due("tries", x.count(3), 2);
        due("watch", x.count(15), 2);
    }

    // ---- 4: which fault

    static void firstPlaceThatIsWrong() {
        says(4, "of the first place along it that is wrong (0 the first byte)");
        fault("key 10000;limit 0", 4, NO_SUCH_NUMBER);
        fault("limit 0;limit 1", 6, NO_SUCH_NUMBER);
        fault("key 1;image 31 9 parts 100000", 12, NO_SUCH_NUMBER);
        fault("key 1;image 30 9 parts 100000", 15, NO_SUCH_NUMBER);
        fault("key 1;image 30 0 parts 100000 x", 23, NO_SUCH_NUMBER);
        fault("x;y", 0, NO_BYTE);
        fault("limit 1;limit 0;x", 8, ONE_LINE_TOO_MANY);
        fault("key 1;image 1 0 revokes 0,0,0,0,0,0 parts 1 2 3 4 5", 32, ONE_NUMBER_TOO_MANY);
        fault("key 1;image 1 0 parts 1 2 3 4 5;limit 0", 30, ONE_NUMBER_TOO_MANY);
    }

    static void leastOfOnePlace() {
        says(4, "Of one place the least.");
        fault("key 1;image 1 0 parts 1 2 3 4 100000", 30, NO_SUCH_NUMBER);
        fault("key 1;image 1 0 parts 1 2 3 4 99999", 30, ONE_NUMBER_TOO_MANY);
        fault("key 1;image 1 0 revokes 0,0,0,0,1 parts 1", 32, NO_SUCH_NUMBER);
        fault("key 1;image 1 0 revokes 0,0,0,0,0 parts 1", 32, ONE_NUMBER_TOO_MANY);
    }

    // ---- 4: what a bundle leaves

    static void bundleLeavesTheStore() {
        says(4, "the STORE, what is RUNNING, STARTS and x stay; nothing can be UNDONE");
        TwinSlots x = inSlotA();
        x.health(NONE);
        x.draws(4711);
        x.waits(3);
        due("acts", x.count(11), 7);
        int[] pages = new int[16];
        for (int k = 0; k < 16; k++) {
            pages[k] = x.octet(k / 8, k % 8);
        }
        due("bundle()", tell(x, "key 3;key 4;limit 1"), 3);
        due("acts", x.count(11), 0);
        due("undo()", x.undo(), NONE);
        due("running", x.count(6), A);
        due("rollback", x.count(4), 4);
        due("x", x.count(12), 4711);
        due("ticks", x.count(16), 3);
        due("health was told", x.count(17), 1);
        due("writes of the latest deed", x.count(14), 13);
        due("starts", x.started(0, 0), A);
        due("starts", x.started(1, 0), RECOVERY);
        due("word(0, 0)", x.word(A, 0), 5);
        due("word(2, 0)", x.word(2, 0), 1);
        due("journal(3)", x.journal(3), 91);
        for (int k = 0; k < 16; k++) {
            due("octet", x.octet(k / 8, k % 8), pages[k]);
        }
        due("the tape is empty", x.count(13), 0);
    }

    static void faultLeavesAll() {
        says(4, "-2 - its FAULT, and but for the TAPE nothing happens");
        TwinSlots x = inSlotA();
        x.draws(4711);
        long before = seen(x);
        String[] texts = {"key 7;image 9 0 parts 9;limit 9;tries 7;watch 99;", "key 7;key", "limit 1;limit 1", "x", "",
            "key 1;image 1 0 parts 1 2 3 4 5"};
        int[] faults = {8 * 49 + 1, 8 * 9 + 1, 8 * 8 + 3, 1, 1, 8 * 30 + 4};
        for (int n = 0; n < texts.length; n++) {
            feed(x, texts[n]);
            due("bytes of the tape", x.count(13), texts[n].length());
            due("bundle()", x.bundle(), -2 - faults[n]);
            due("bytes of the tape", x.count(13), 0);
            due("nothing happened", seen(x), before);
            due("image(1, 6)", x.image(1, 6), 1);
            due("why(0)", x.why(A), 0);
        }
        due("it can be undone", x.undo(), 4);
    }

    static void keysOfABundleAreItsOwn() {
        says(4, "tells the BUNDLE in place of the one there was");
        TwinSlots x = told("key 1;key 2 under 0;image 9 1 revokes 0 parts 1 2 3 4;image 8 0 parts 1");
        due("bundle()", tell(x, "key 1;key 2;image 3 1 parts 5"), 3);
        due("keys", x.count(0), 2);
        due("images", x.count(1), 1);
        int[] words = {4, 1, 0, 1, 532 * 31, sign(2, x, 0), 5, 0, 0, 0, 0, 0, 0, 0};
        for (int k = 0; k < 14; k++) {
            due("image(0, " + k + ")", x.image(0, k), words[k]);
        }
        due("image(1, 0)", x.image(1, 0), NONE);
        due("bundle()", tell(x, "watch 5"), 1);
        due("keys", x.count(0), 0);
        due("images", x.count(1), 0);
        due("image(0, 0)", x.image(0, 0), NONE);
        due("revoked(0)", x.revoked(0), NONE);
    }

    // ---- 5: words of images

    static void wordsOfImagesThatAreNot() {
        says(5, "NONE without these");
        TwinSlots x = told("key 1;image 1 0 parts 1;image 2 0 parts 1;image 3 0 parts 1;image 4 0 parts 1;"
            + "image 5 0 parts 1;image 6 0 parts 1");
        due("image(5, 0)", x.image(5, 0), 7);
        due("image(6, 0)", x.image(6, 0), NONE);
        due("image(-1, 0)", x.image(-1, 0), NONE);
        due("image(0, 13)", x.image(0, 13), 0);
        due("image(0, 14)", x.image(0, 14), NONE);
        due("image(1, -1)", x.image(1, -1), NONE);
        for (int n : FAR) {
            due("image(" + n + ", 0)", x.image(n, 0), NONE);
            due("image(0, " + n + ")", x.image(0, n), NONE);
            due("image(" + n + ", " + n + ")", x.image(n, n), NONE);
        }
    }

    static void wordsBehindTheParts() {
        says(5, "for each PART two: itself, DIGEST of the PART behind it (0); 0 behind these");
        for (int parts = 1; parts <= 4; parts++) {
            TwinSlots x = told("key 1;image 1 0 parts" + " 65536".repeat(parts));
            int digest = 0;
            for (int part = parts - 1; part >= 0; part--) {
                due("its part", x.image(0, 6 + 2 * part), 65536);
                due("digest of the part behind it", x.image(0, 7 + 2 * part), digest);
                digest = (int) (((65536L + 527) * 31 + digest) % 65536);
            }
            due("digest of the first part", x.image(0, 4), digest);
            for (int k = 6 + 2 * parts; k < 14; k++) {
                due("word " + k + " of " + parts + " parts", x.image(0, k), 0);
            }
        }
    }

    static void digestsOfEdges() {
        says(5, "DIGEST of a PART: ((PART + 527) * 31 + d), of 65536 the rest");
        due("of 0", told("key 1;image 1 0 parts 0").image(0, 4), 527 * 31);
        due("of 99999", told("key 1;image 1 0 parts 99999").image(0, 4), (99999 + 527) * 31 % 65536);
        // (1587 + 527) * 31 is 65534; (3701 + 527) * 31 is two times 65534, by 65536 the rest 65532.
        due("of 1587", told("key 1;image 1 0 parts 1587").image(0, 4), 65534);
        due("of 3701", told("key 1;image 1 0 parts 3701").image(0, 4), 65532);
        // (1 + 527) * 31 is 16368, and 49168 of the part behind it makes 65536: the rest is 0.
        int behind = 65536 - 528 * 31;
        for (int part = 0; part < 65536; part++) {
            if ((part + 527) * 31 % 65536 == behind) {
                TwinSlots x = told("key 1;image 1 0 parts 1 " + part);
                due("the digest behind", x.image(0, 7), behind);
                due("of 65536 the rest", x.image(0, 4), 0);
                due("such an image is sound", x.factory(0) && x.why(2) == 0, true);
                break;
            }
        }
    }

    static void signsOfEdges() {
        says(5, "h is the KEY's SECRET and 7");
        for (int secret : new int[] {0, 1, 9998, 9999}) {
            TwinSlots x = told("key " + secret + ";image 30 0 revokes 0 parts 99999 99999 99999 99999");
            due("sign by " + secret, x.image(0, 5), sign(secret, x, 0));
        }
        TwinSlots x = told("key 0;key 9999;image 0 1 revokes 0,1 parts 0");
        due("sign by the second", x.image(0, 5), sign(9999, x, 0));
    }
}
