/** Counts answers that are not the ones that are due; also the words that all tests share. */
final class Due {
    static final int BEYOND = -1000000001;
    static final int NONE = -1000000002;
    static final int STATE = -1000000003;
    static final int FULL = -1000000004;
    static final int KIND = -1000000005;

    private final String test;
    private int asked;
    private int wrong;

    Due(String test) {
        this.test = test;
    }

    void is(String what, long want, long got) {
        asked++;
        if (want != got) {
            wrong++;
            System.out.println(test + ": " + what + " answered " + got + ", due is " + want);
        }
    }

    void so(String what, boolean so) {
        is(what, 1, so ? 1 : 0);
    }

    void end() {
        System.out.println(test + ": " + asked + " answers, " + wrong + " not as due");
        if (wrong > 0 || asked == 0) {
            System.exit(1);
        }
    }

    /** Feeds a whole text to the tape, eight bytes at a time; what the last feed answered. */
    static int feed(WellNames x, String bytes) {
        int answer = x.count(7);
        for (int i = 0; i < bytes.length(); i += 8) {
            int n = Math.min(8, bytes.length() - i);
            long word = 0;
            for (int k = 0; k < n; k++) {
                word |= (long) (bytes.charAt(i + k) & 255) << (8 * k);
            }
            answer = x.feed(word, n);
        }
        return answer;
    }

    /** Makes a text of what is fed, on an empty tape. */
    static int text(WellNames x, int use, String bytes) {
        feed(x, bytes);
        return x.text(use);
    }

    /** Makes a sheet of so many bits with these numbers. */
    static void sheet(WellNames x, int sheet, int bits, int... numbers) {
        x.sheet(sheet, bits, numbers.length);
        for (int i = 0; i < numbers.length; i++) {
            x.put(sheet, i, numbers[i]);
        }
    }
}
