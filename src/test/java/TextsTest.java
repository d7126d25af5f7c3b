/** Promises 11 to 13: texts. */
public final class TextsTest {
    private static final Due DUE = new Due("TextsTest");

    public static void main(String[] args) {
        feed();
        textOfUse();
        faults();
        eachByte();
        longest();
        open();
        law();
        wraps();
        withoutText();
        DUE.end();
    }

    private static void feed() {
        WellNames x = new WellNames();
        DUE.is("11: the lowest alone", 2, x.feed(0x7777_7777_7777_6D6DL, 2));
        DUE.is("11: on to the tape", 3, x.feed('t', 1));
        DUE.is("11: none", Due.BEYOND, x.feed(0, 0));
        DUE.is("11: too many", Due.BEYOND, x.feed(0, 9));
        DUE.is("11: below", Due.BEYOND, x.feed(-1L, Integer.MIN_VALUE));
        DUE.is("11: bytes of the tape", 3, x.count(7));
        for (int i = 0; i < 5; i++) {
            DUE.is("11: eight at once", 11 + 8 * i, x.feed(Long.MIN_VALUE, 8));
        }
        DUE.is("11: full", Due.FULL, x.feed(0, 8));
        DUE.is("11: nothing came", 43, x.count(7));
        DUE.is("11: up to 50", 50, x.feed(0, 7));
        DUE.is("11: full", Due.FULL, x.feed(0, 1));
        DUE.is("11: beyond comes ahead", Due.BEYOND, x.feed(0, 9));
        WellNames y = new WellNames();
        y.feed(0x74_2B_32_2A_6DL, 5);
        DUE.is("11: bytes in their order", 1, y.text(0));
        DUE.is("11: m * 2 + t", 13, y.law(0, 4, 5, 0));
    }

    private static void textOfUse() {
        WellNames x = new WellNames();
        DUE.is("12: a text", 1, Due.text(x, 0, "m+1"));
        DUE.is("12: the tape is empty then", 0, x.count(7));
        DUE.is("12: in place of one ahead", 1, Due.text(x, 0, "m+2"));
        DUE.is("12: the new one", 7, x.law(0, 5, 0, 0));
        DUE.is("12: not of the other use", 5, x.law(1, 5, 0, 0));
        Due.feed(x, "7");
        DUE.is("12: no such use", Due.BEYOND, x.text(2));
        DUE.is("12: no such use", Due.BEYOND, x.text(-1));
        DUE.is("12: the tape stays", 1, x.count(7));
        DUE.is("12: and is a text", 1, x.text(1));
        DUE.is("12: a fault", -12, Due.text(x, 0, "t+"));
        DUE.is("12: the tape is empty then, too", 0, x.count(7));
        DUE.is("12: the one ahead stays", 7, x.law(0, 5, 0, 0));
        DUE.is("12: an empty tape ends too early", -10, x.text(0));
        DUE.is("12: the one ahead stays", 7, x.law(0, 5, 0, 0));
        DUE.is("12: a fault is no error", 2, x.told(1));
        for (int k = 2; k <= 5; k++) {
            DUE.is("12: a fault is no error", 0, x.told(k));
        }
        DUE.is("12: a long one", 1, Due.text(x, 0, "!!m"));
        DUE.is("12: a shorter one in its place", 1, Due.text(x, 0, "m"));
        DUE.is("12: nothing is left of the long one", 7, x.law(0, 7, 0, 0));
        String longest = "1+1+1+1+1+1+1+1+1+1+1+1+1+1+1+1+1+1+1+1+1+1+1+1+11";
        DUE.is("12: all of the tape", 1, Due.text(x, 0, longest));
        DUE.is("12: what it gives", 35, x.law(0, 0, 0, 0));
    }

    private static void fault(int use, String bytes, int place) {
        WellNames x = new WellNames();
        DUE.is("12: " + bytes, place < 0 ? 1 : -10 - place, Due.text(x, use, bytes));
    }

    private static void faults() {
        fault(0, "m", -1);
        fault(0, "t", -1);
        fault(0, "d", -1);
        fault(0, "l", 0);
        fault(1, "l", -1);
        fault(1, "m", -1);
        fault(1, "d", -1);
        fault(1, "t", 0);
        fault(0, "M", 0);
        fault(0, "0000", -1);
        fault(0, "9999+1", -1);
        fault(0, "12345", 4);
        fault(0, "m1", 1);
        fault(0, "1m", 1);
        fault(0, "mt", 1);
        fault(0, " m", 0);
        fault(0, "m ", 1);
        fault(0, "m+ 1", 2);
        fault(0, "-1", 0);
        fault(0, "1--1", 2);
        fault(0, "1+", 2);
        fault(0, "1<2", -1);
        fault(0, "1<2<3", 3);
        fault(0, "1=2>3", 3);
        fault(0, "1<2&2<3|4>5", -1);
        fault(0, "(1<2)<3", -1);
        fault(0, "1<(2<3)=4", 7);
        fault(0, "1<=2", 2);
        fault(0, "1||2", 2);
        fault(0, "1&", 2);
        fault(0, "!", 1);
        fault(0, "!!m", -1);
        fault(0, "m!", 1);
        fault(0, "!m=!t", -1);
        fault(0, "(", 1);
        fault(0, "()", 1);
        fault(0, "(m", 2);
        fault(0, "(m)", -1);
        fault(0, "m)", 1);
        fault(0, "(m))", 3);
        fault(0, "(m)(t)", 3);
        fault(0, "(m)1", 3);
        fault(0, "(1+2*3", 6);
        fault(0, "m^t", 1);
        fault(0, "m\0", 1);
        fault(0, "" + (char) 200, 0);
        fault(0, "m" + (char) 255, 1);
        fault(0, "1*/2", 2);
        fault(0, "1%", 2);
    }

    /** Each byte as the first one, behind a name, behind a comparison, and behind a number of 3 and of 4 digits. */
    private static void eachByte() {
        String digits = "0123456789";
        String between = "|&<=>+-*/%";
        for (int use = 0; use < 2; use++) {
            String begins = "md!(" + digits + (use == 0 ? "t" : "l");
            for (int c = 0; c < 256; c++) {
                byteBehind(use, "", c, begins, "!(");
                byteBehind(use, "m+", c, begins, "!(");
                byteBehind(use, "!", c, begins, "!(");
                byteBehind(use, "(", c, begins, begins);
                byteBehind(use, "m", c, between, between);
                byteBehind(use, "1=d", c, "|&+-*/%", "|&+-*/%");
                byteBehind(use, "(m", c, between + ")", between);
                byteBehind(use, "123", c, digits + between, between);
                byteBehind(use, "1234", c, between, between);
                byteBehind(use, "(m)", c, between, between);
            }
        }
    }

    // With a byte that goes on the text either ends well or too early; an open parenthesis always ends too early.
    private static void byteBehind(int use, String ahead, int c, String goesOn, String tooEarly) {
        WellNames x = new WellNames();
        Due.feed(x, ahead + (char) c);
        int n = ahead.length();
        int due = goesOn.indexOf(c) < 0 ? -10 - n : tooEarly.indexOf(c) >= 0 ? -11 - n : 1;
        DUE.is("12: use " + use + " " + ahead + " and byte " + c, due, x.text(use));
        DUE.is("12: the tape is empty then", 0, x.count(7));
    }

    private static void longest() {
        String ahead = "1+1+1+1+1+1+1+1+1+1+1+1+1+1+1+1+1+1+1+1+1+1+1+1+";
        fault(0, ahead + "11", -1);
        fault(0, ahead + "1+", 50);
        fault(0, ahead + "1m", 49);
        fault(0, ahead + "+1", 48);
        fault(1, ahead + "1", -1);
        fault(1, ahead, 48);
        WellNames x = new WellNames();
        DUE.is("12: fifty bytes of many kinds", 1, Due.text(x, 0, "((m+1)*2-t)/3%9999+!0*(d<55)+(1|!(!!m))*4-12/3+005"));
        DUE.is("13: what it gives", 8, x.law(0, 3, 1, 7));
    }

    private static void wraps() {
        WellNames x = new WellNames();
        int max = Integer.MAX_VALUE;
        int min = Integer.MIN_VALUE;
        lawOf(x, "l+m", 0, max, 1);
        lawOf(x, "l+m", 99, min, -1);
        lawOf(x, "l-m", 99, min, 1);
        lawOf(x, "l-m", 0, max, -1);
        lawOf(x, "l*m", 0, max, 2);
        lawOf(x, "l*m+7", 7, 65536, 65536);
        lawOf(x, "l*m", 99, min + 1, -1);
        lawOf(x, "l*m<0", 1, min, -1);
        lawOf(x, "l/m<0", 1, min, -1);
        lawOf(x, "l%m+7", 7, min, -1);
        lawOf(x, "l/m+7", 7, min, 0);
        lawOf(x, "l%m+7", 7, min, 0);
        lawOf(x, "l/m+7", 5, -5, 2);
        lawOf(x, "l%m+7", 6, -5, 2);
        lawOf(x, "l/m+7", 5, 5, -2);
        lawOf(x, "l%m+7", 8, 5, -2);
        lawOf(x, "l", 99, 99, 0);
        lawOf(x, "l", 99, 100, 0);
        lawOf(x, "l", 0, 0, 0);
        lawOf(x, "l", 0, -1, 0);
        lawOf(x, "l", 0, min, 0);
        lawOf(x, "l", 99, max, 0);
        lawOf(x, "l<m", 1, min, max);
        lawOf(x, "l>m", 1, max, min);
        lawOf(x, "9999", 99, 0, 0);
        lawOf(x, "0000", 0, 5, 5);
        lawOf(x, "0/0+0%0+3", 3, 0, 0);
        x.feed(0x352B342B332B326DL, 8);
        DUE.is("12: eight bytes at once, no sign between two", -11, x.text(1));
        x.feed(0x35332B342B332B6DL, 8);
        DUE.is("12: eight bytes at once", 1, x.text(1));
        DUE.is("13: m+3+4+35, the lowest byte first", 43, x.law(1, 9, 1, 9));
    }

    private static void lawOf(WellNames x, String bytes, int due, int l, int m) {
        DUE.is("12: " + bytes, 1, Due.text(x, 1, bytes));
        DUE.is("13: " + bytes + " of " + l + " and " + m, due, x.law(1, l, m, 0));
    }

    private static void open() {
        fault(0, "!!!!!m", -1);
        fault(0, "!!!!!!m", 5);
        fault(0, "(((((m)))))", -1);
        fault(0, "((((((m))))))", 5);
        fault(0, "!(!(!m))", -1);
        fault(0, "!(!(!(m)))", 5);
        fault(0, "!!!!!m+!!!!!t", -1);
        fault(0, "(((((m)))))*(((((t)))))", -1);
        fault(0, "((((!m+!t))))", -1);
        fault(0, "((((!m+!!t))))", 8);
        fault(0, "((((!m)+!t)+!!d)+!!!7)", -1);
        fault(0, "(((((1", 6);
        fault(0, "!!!!!", 5);
    }

    private static void law() {
        gives("1+2*3", 7);
        gives("(1+2)*3", 9);
        gives("10-3-2", 5);
        gives("20/3", 6);
        gives("20/3*3", 18);
        gives("20%7", 6);
        gives("7-20%7", 1);
        gives("100/0", 0);
        gives("100%0", 0);
        gives("(1-8)/2+50", 47);
        gives("(1-8)%4+50", 47);
        gives("1-2", 0);
        gives("100", 99);
        gives("99", 99);
        gives("9999*9999*9999", 9999 * 9999 * 9999 < 0 ? 0 : 99);
        gives("9999*9999*99", 9999 * 9999 * 99 < 0 ? 0 : 99);
        gives("3<4", 1);
        gives("4<4", 0);
        gives("4=4", 1);
        gives("4>4", 0);
        gives("5>4", 1);
        gives("2|0", 1);
        gives("0|0", 0);
        gives("2&4", 1);
        gives("2&0", 0);
        gives("!7", 0);
        gives("!0", 1);
        gives("!!7", 1);
        gives("!0+5", 6);
        gives("1|0&0", 1);
        gives("0&0|1", 1);
        gives("1+1=2", 1);
        gives("5&3<4", 1);
        gives("007", 7);
        gives("7/0+1", 1);
        gives("7%0+1", 1);
        gives("(2<1)+1", 1);
        gives("(2>3)+1", 1);
        gives("(2=3)+1", 1);
        gives("(0|0)+1", 1);
        gives("(1&0)+1", 1);
        gives("(0&1)+1", 1);
        gives("(0|3)&1", 1);
        gives("(1|3)*9", 9);
        gives("((1&1|0)=1)*7", 7);
        gives("1&2", 1);
        gives("(1-2)&1", 1);
        WellNames x = new WellNames();
        Due.text(x, 0, "m*100-t*10-d");
        DUE.is("13: in order as m, t, d", 76, x.law(0, 1, 2, 4));
        Due.text(x, 1, "l*100-m*10-d");
        DUE.is("13: in order as l, m, d", 76, x.law(1, 1, 2, 4));
        Due.text(x, 1, "l+m");
        DUE.is("13: ints that wrap", 0, x.law(1, Integer.MAX_VALUE, 1, 0));
        Due.text(x, 1, "l/(0-1)<0");
        DUE.is("13: the least by -1", 1, x.law(1, Integer.MIN_VALUE, 0, 0));
        Due.text(x, 1, "l%(0-1)+3");
        DUE.is("13: the least by -1", 3, x.law(1, Integer.MIN_VALUE, 0, 0));
        DUE.is("13: no such use", Due.BEYOND, x.law(2, 0, 0, 0));
        DUE.is("13: no such use", Due.BEYOND, x.law(-1, 0, 0, 0));
    }

    private static void gives(String bytes, int due) {
        WellNames x = new WellNames();
        for (int use = 0; use < 2; use++) {
            DUE.is("13: " + bytes, 1, Due.text(x, use, bytes));
            DUE.is("13: " + bytes, due, x.law(use, 1, 2, 3));
        }
    }

    private static void withoutText() {
        WellNames x = new WellNames();
        DUE.is("13: 1+t/4", 1, x.law(0, 9, 3, 9));
        DUE.is("13: 1+t/4", 2, x.law(0, 9, 4, 9));
        DUE.is("13: l", 20, x.law(1, 20, 9, 9));
        DUE.is("13: held, too", 99, x.law(0, 0, 1000, 0));
        DUE.is("13: held, too", 0, x.law(0, 0, -1000, 0));
        DUE.is("13: held, too", 99, x.law(1, Integer.MAX_VALUE, 0, 0));
        DUE.is("13: held, too", 0, x.law(1, Integer.MIN_VALUE, 0, 0));
    }
}
