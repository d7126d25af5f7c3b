/** Promises 29 to 36: draws, voices, sheets. */
public final class SheetsAndVoicesTest {
    private static final Due DUE = new Due("SheetsAndVoicesTest");

    public static void main(String[] args) {
        seed();
        voice();
        trace();
        sheet();
        put();
        move();
        waters();
        judge();
        DUE.end();
    }

    private static void seed() {
        WellNames x = new WellNames();
        DUE.is("29: at first", 1, x.seed(Integer.MIN_VALUE));
        DUE.is("29: what it was", Integer.MIN_VALUE, x.seed(-1000000001));
        DUE.is("29: any number", -1000000001, x.seed(0));
        DUE.is("29: it is told", 0, x.count(10));
        DUE.is("29: no error", 0, x.told(1));
        x.loose(1);
        int z = 12345;
        DUE.is("29: draws go on from it", z * 1103515245 + 12345, x.count(10));
    }

    private static void says(int kind, int act, int x, int due, int... bodies) {
        WellNames w = new WellNames();
        w.person(0, 0);
        w.person(kind * 10 + 4, 0);
        String what = "30: kind " + kind + " act " + act + " of " + x;
        DUE.is(what, due, w.voice(1, act, x));
        DUE.is("31: " + what, bodies.length, w.count(9));
        for (int i = 0; i < bodies.length; i++) {
            DUE.is("31: " + what + " body " + i, bodies[i], w.trace(i));
        }
        DUE.is("31: " + what, Due.NONE, w.trace(bodies.length));
    }

    // n is 1 and m is 4 in all of these.
    private static void voice() {
        says(0, 0, 5, 6, 10);
        says(0, 1, 5, 12, 11, 10);
        says(0, 2, 5, 1, 12);
        says(0, 3, 5, 12 ^ 1, 13, 11, 10, 12);
        says(1, 0, 5, 18, 20, 10);
        says(1, 1, 5, 36, 11, 20, 10);
        says(1, 3, 5, 36 ^ 1, 13, 11, 20, 10, 12);
        says(2, 1, 5, 12 - (1 - 4), 30, 11, 10, 12);
        says(2, 3, 5, 15 ^ 1, 13, 30, 11, 10, 12, 12);
        says(3, 2, 5, -1, 40, 12);
        says(3, 3, 5, 12 ^ -1, 13, 11, 10, 40, 12);
        says(4, 3, 5, (36 ^ 1) - 9, 50, 13, 11, 20, 10, 12, 20, 10);
        says(4, 0, 5, 18, 20, 10);
        says(5, 1, 5, 14 + 3, 60, 30, 11, 10, 12);
        says(5, 3, 5, 17 ^ 1, 13, 60, 30, 11, 10, 12, 12);
        says(6, 2, 5, -1 ^ 1, 70, 40, 12);
        says(6, 3, 5, 12 - (12 ^ -2), 71, 11, 10, 13, 11, 10, 70, 40, 12);
        says(0, 0, Integer.MAX_VALUE, Integer.MIN_VALUE, 10);
        says(5, 1, Integer.MAX_VALUE, (Integer.MIN_VALUE + 1) * 2 + 3, 60, 30, 11, 10, 12);
        says(0, 0, -1000000003, -1000000002, 10);
        voiceGoesRound();
        WellNames x = new WellNames();
        DUE.is("30: nobody there", Due.BEYOND, x.voice(0, 0, 0));
        x.person(0, 0);
        DUE.is("30: no such act", Due.BEYOND, x.voice(0, 4, 0));
        DUE.is("30: no such act", Due.BEYOND, x.voice(0, -1, 0));
        DUE.is("30: nobody there", Due.BEYOND, x.voice(-1, 0, 0));
        x.voice(0, 0, -1000000003);
        DUE.is("30: any number is no error", 4, x.told(1));
        x.days(13);
        DUE.is("30: the dead have voices", 7, x.voice(0, 0, 7));
    }

    // As ints go round: n is 1 and m is 4.
    private static void voiceGoesRound() {
        int max = Integer.MAX_VALUE;
        int min = Integer.MIN_VALUE;
        says(0, 1, max, 0, 11, 10);
        says(0, 2, min, max - 3, 12);
        says(0, 2, min + 3, max, 12);
        says(0, 3, min, 2 ^ (max - 3), 13, 11, 10, 12);
        says(1, 0, max, min, 20, 10);
        says(1, 0, max / 3 + 1, min + 4, 20, 10);
        says(1, 1, max, 0, 11, 20, 10);
        says(2, 1, max, 3, 30, 11, 10, 12);
        says(2, 1, max / 2, min + 3, 30, 11, 10, 12);
        says(3, 2, min + 4, min, 40, 12);
        says(3, 2, min, min + 4, 40, 12);
        says(4, 3, min + 3, (24 ^ max) - 9, 50, 13, 11, 20, 10, 12, 20, 10);
        says(6, 2, min + 4, min + 1, 70, 40, 12);
    }

    private static void trace() {
        WellNames x = new WellNames();
        DUE.is("31: none at first", Due.NONE, x.trace(0));
        x.person(60, 0);
        x.voice(0, 3, 1);
        DUE.is("31: nine", 9, x.count(9));
        DUE.is("31: the last", 12, x.trace(8));
        DUE.is("31: none such", Due.NONE, x.trace(9));
        DUE.is("31: none such", Due.NONE, x.trace(-1));
        x.voice(1, 0, 1);
        DUE.is("31: an error leaves it", 9, x.count(9));
        x.voice(0, 0, 1);
        DUE.is("31: of the latest voice", 1, x.count(9));
        DUE.is("31: of the latest voice", 10, x.trace(0));
        DUE.is("31: none such", Due.NONE, x.trace(1));
    }

    private static void sheet() {
        WellNames x = new WellNames();
        DUE.is("32: made", 1, x.sheet(0, 8, 40));
        DUE.is("32: its last number", 1, x.put(0, 39, 1));
        DUE.is("32: no more numbers", Due.BEYOND, x.put(0, 40, 1));
        DUE.is("32: too many", Due.BEYOND, x.sheet(0, 8, 41));
        DUE.is("32: below", Due.STATE, x.sheet(0, 8, -1));
        DUE.is("32: below", Due.STATE, x.sheet(0, 32, Integer.MIN_VALUE));
        DUE.is("32: no such bits", Due.BEYOND, x.sheet(0, 7, -1));
        DUE.is("32: no such bits", Due.BEYOND, x.sheet(0, 64, 1));
        DUE.is("32: no such bits", Due.BEYOND, x.sheet(0, -8, 1));
        DUE.is("32: no such sheet", Due.BEYOND, x.sheet(4, 8, -1));
        DUE.is("32: no such sheet", Due.BEYOND, x.sheet(-1, 8, 1));
        DUE.is("32: nothing changed", 1, x.put(0, 39, 7));
        DUE.is("32: no numbers", 1, x.sheet(1, 16, 0));
        DUE.is("32: not missing", 0, x.waters(1));
        DUE.is("32: anew", 1, x.sheet(0, 16, 3));
        DUE.is("32: all 0", 3, x.waters(0));
        DUE.is("32: all 0", 72 - 27, x.count(4));
        DUE.is("32: missing, n doesn't matter", 1, x.sheet(0, 0, -5));
        DUE.is("32: missing", Due.NONE, x.put(0, 0, 0));
        DUE.is("32: missing, n doesn't matter", 1, x.sheet(0, 0, 1000));
        DUE.is("32: no such sheet", Due.BEYOND, x.sheet(4, 0, 0));
        x.sheet(2, 8, 1);
        x.put(2, 0, 5);
        x.sheet(2, 8, 1);
        x.waters(2);
        DUE.is("32: made once more, all 0", 0, x.ofWell(0, 0));
    }

    private static void put() {
        WellNames x = new WellNames();
        x.person(0, 0);
        int[] bits = {8, 16, 32};
        int[] ones = {255, 65535, -1};
        for (int i = 0; i < 3; i++) {
            x.sheet(i, bits[i], 1);
            DUE.is("33: put", 1, x.put(i, 0, ones[i]));
            DUE.is("33: the lowest bits, as of nobody", -1, x.judge(i));
        }
        x.sheet(3, 8, 2);
        x.put(3, 0, 256 + 5);
        x.put(3, 1, Integer.MIN_VALUE + 6);
        DUE.is("33: the lowest bits", 2, x.waters(3));
        DUE.is("33: the lowest bits", 5, x.ofWell(0, 0));
        DUE.is("33: the lowest bits", 6, x.ofWell(1, 0));
        x.sheet(3, 16, 1);
        x.put(3, 0, 65536 * 3 + 77);
        x.waters(3);
        DUE.is("33: the lowest bits", 77, x.ofWell(0, 0));
        x.put(3, 0, 256 + 5);
        DUE.is("33: sixteen bits", 0, x.waters(3));
        x.sheet(3, 32, 1);
        x.put(3, 0, 65536 + 5);
        DUE.is("33: all bits", 0, x.waters(3));
        DUE.is("33: no such number", Due.BEYOND, x.put(3, 1, 0));
        DUE.is("33: no such number", Due.BEYOND, x.put(3, -1, 0));
        x.sheet(3, 0, 0);
        DUE.is("33: missing ahead of no such number", Due.NONE, x.put(3, 50, 0));
        DUE.is("33: no such sheet", Due.BEYOND, x.put(4, 0, 0));
        DUE.is("33: no such sheet", Due.BEYOND, x.put(-1, 0, 0));
    }

    private static void holds(String what, WellNames x, int sheet, int... water) {
        for (int well = 0; well < 8; well++) {
            x.water(well, 99);
        }
        DUE.is(what, water.length, x.waters(sheet));
        for (int i = 0; i < water.length; i++) {
            DUE.is(what + " number " + i, water[i], x.ofWell(i, 0));
        }
    }

    private static void move() {
        WellNames x = new WellNames();
        Due.sheet(x, 0, 8, 1, 2, 3, 4, 5);
        Due.sheet(x, 1, 8, 11, 12, 13);
        Due.sheet(x, 2, 16, 1);
        DUE.is("34: to another one", 2, x.move(0, 3, 1, 1, 2));
        holds("34: to another one", x, 1, 11, 4, 5);
        DUE.is("34: up the same", 4, x.move(0, 0, 0, 1, 4));
        holds("34: up the same", x, 0, 1, 1, 2, 3, 4);
        DUE.is("34: down the same", 3, x.move(0, 2, 0, 0, 3));
        holds("34: down the same", x, 0, 2, 3, 4, 3, 4);
        DUE.is("34: none", 0, x.move(0, 5, 1, 3, 0));
        DUE.is("34: none, behind the end", Due.BEYOND, x.move(0, 6, 1, 0, 0));
        DUE.is("34: none, behind the end", Due.BEYOND, x.move(0, 0, 1, 4, 0));
        DUE.is("34: not so many", Due.BEYOND, x.move(0, 3, 1, 0, 3));
        DUE.is("34: not so many", Due.BEYOND, x.move(0, 0, 1, 1, 3));
        DUE.is("34: below", Due.BEYOND, x.move(0, -1, 1, 0, 1));
        DUE.is("34: below", Due.BEYOND, x.move(0, 0, 1, -1, 1));
        DUE.is("34: below", Due.BEYOND, x.move(0, 0, 1, 0, -1));
        DUE.is("34: far out", Due.BEYOND, x.move(0, Integer.MAX_VALUE, 1, 1, Integer.MAX_VALUE));
        DUE.is("34: far out", Due.BEYOND, x.move(0, 1, 1, Integer.MAX_VALUE, 1));
        DUE.is("34: far out", Due.BEYOND, x.move(0, 1, 1, 1, Integer.MAX_VALUE));
        DUE.is("34: unlike bits", Due.KIND, x.move(0, -1, 2, 0, 1));
        DUE.is("34: one is missing", Due.NONE, x.move(0, 0, 3, 0, 1));
        DUE.is("34: one is missing", Due.NONE, x.move(3, -1, 2, 0, 1));
        DUE.is("34: no such sheet", Due.BEYOND, x.move(4, 0, 3, 0, 1));
        DUE.is("34: no such sheet", Due.BEYOND, x.move(0, 0, -1, 0, 1));
        holds("34: nothing changed", x, 0, 2, 3, 4, 3, 4);
        holds("34: nothing changed", x, 1, 11, 4, 5);
        DUE.is("34: none of none", 0, x.move(1, 3, 1, 3, 0));
        x.sheet(2, 8, 0);
        DUE.is("34: none of an empty one", 0, x.move(2, 0, 2, 0, 0));
        DUE.is("34: none to an empty one", 0, x.move(0, 0, 2, 0, 0));
        DUE.is("34: one to an empty one", Due.BEYOND, x.move(0, 0, 2, 0, 1));
        DUE.is("34: one of an empty one", Due.BEYOND, x.move(2, 0, 0, 0, 1));
        wholeSheets();
    }

    private static void wholeSheets() {
        WellNames x = new WellNames();
        for (int bits = 8; bits <= 32; bits *= 2) {
            x.sheet(0, bits, 40);
            x.sheet(1, bits, 40);
            for (int i = 0; i < 40; i++) {
                DUE.is("33: each of forty", 1, x.put(0, i, i));
            }
            DUE.is("34: forty", 40, x.move(0, 0, 1, 0, 40));
            DUE.is("34: one more", Due.BEYOND, x.move(0, 0, 1, 0, 41));
            holds("34: forty", x, 1, 0, 1, 2, 3, 4, 5, 6, 7);
            DUE.is("34: one up", 39, x.move(1, 0, 1, 1, 39));
            holds("34: one up", x, 1, 0, 0, 1, 2, 3, 4, 5, 6);
            DUE.is("34: the last to the first", 1, x.move(1, 39, 1, 0, 1));
            holds("34: the last to the first", x, 1, 38, 0, 1, 2, 3, 4, 5, 6);
            DUE.is("34: one and the same place", 40, x.move(1, 0, 1, 0, 40));
            holds("34: one and the same place", x, 1, 38, 0, 1, 2, 3, 4, 5, 6);
        }
    }

    private static void waters() {
        WellNames x = new WellNames();
        Due.sheet(x, 0, 16, 0, 99, 100, 7);
        DUE.is("35: up to the first above", 2, x.waters(0));
        DUE.is("35: taken", 0, x.ofWell(0, 0));
        DUE.is("35: taken", 99, x.ofWell(1, 0));
        DUE.is("35: not taken", 9, x.ofWell(2, 0));
        DUE.is("35: not taken", 9, x.ofWell(3, 0));
        Due.sheet(x, 0, 8, 1, 2, -1, 3);
        DUE.is("35: up to the first below", 2, x.waters(0));
        Due.sheet(x, 0, 8, 10, 11, 12, 13, 14, 15, 16, 17, 18, 19);
        DUE.is("35: up to the last well", 8, x.waters(0));
        DUE.is("35: taken", 17, x.ofWell(7, 0));
        Due.sheet(x, 0, 16, 20, 21, 22, 23, 24, 25, 26, 27);
        DUE.is("35: just as many", 8, x.waters(0));
        DUE.is("35: taken", 27, x.ofWell(7, 0));
        Due.sheet(x, 0, 16, 30, 31, 32, 33, 34, 35, 36, 100);
        DUE.is("35: all but the last", 7, x.waters(0));
        DUE.is("35: taken", 36, x.ofWell(6, 0));
        DUE.is("35: not taken", 27, x.ofWell(7, 0));
        Due.sheet(x, 0, 8, 100, 1);
        DUE.is("35: not the first", 0, x.waters(0));
        Due.sheet(x, 0, 8, 128);
        DUE.is("35: eight bits below 0", 0, x.waters(0));
        Due.sheet(x, 0, 16, 32768);
        DUE.is("35: sixteen bits below 0", 0, x.waters(0));
        Due.sheet(x, 0, 32, Integer.MIN_VALUE);
        DUE.is("35: far below 0", 0, x.waters(0));
        DUE.is("35: nothing is taken", 30, x.ofWell(0, 0));
        Due.sheet(x, 0, 8);
        DUE.is("35: no numbers", 0, x.waters(0));
        DUE.is("35: no error", 0, x.told(1));
        DUE.is("35: missing", Due.NONE, x.waters(1));
        DUE.is("35: no such sheet", Due.BEYOND, x.waters(4));
        DUE.is("35: no such sheet", Due.BEYOND, x.waters(-1));
    }

    private static void judge() {
        WellNames x = new WellNames();
        Due.sheet(x, 0, 8);
        DUE.is("36: nobody and nothing", -1, x.judge(0));
        Due.sheet(x, 0, 8, -1);
        DUE.is("36: too many for nobody", 0, x.judge(0));
        Due.sheet(x, 0, 8);
        x.person(0, 3);
        x.person(0, 4);
        x.person(0, 5);
        x.drink(0);
        x.drink(1);
        DUE.is("36: the first lacks", 0, x.judge(0));
        Due.sheet(x, 0, 8, 4, 4, -1);
        DUE.is("36: the first isn't so", 0, x.judge(0));
        Due.sheet(x, 0, 8, -1, 4);
        DUE.is("36: the first isn't so, though one lacks", 0, x.judge(0));
        Due.sheet(x, 0, 8, 3, 4, 5, -1);
        DUE.is("36: one isn't so ahead of one too many", 2, x.judge(0));
        Due.sheet(x, 0, 16, 3, 4 + 256, -1);
        DUE.is("36: all sixteen bits", 1, x.judge(0));
        Due.sheet(x, 0, 8, 3 + 256, 4 - 256, 255);
        DUE.is("36: the lowest eight bits", -1, x.judge(0));
        Due.sheet(x, 0, 8, 3, 4);
        DUE.is("36: the third lacks", 2, x.judge(0));
        Due.sheet(x, 0, 8, 3, 4, -1);
        DUE.is("36: all are", -1, x.judge(0));
        Due.sheet(x, 0, 32, 3, 4, -1, -1);
        DUE.is("36: one is too many", 3, x.judge(0));
        Due.sheet(x, 0, 32, 3, 5, -1, -1);
        DUE.is("36: the first that isn't so", 1, x.judge(0));
        Due.sheet(x, 0, 32, 3, 4, 255);
        DUE.is("36: not nobody's", 2, x.judge(0));
        x.days(13);
        Due.sheet(x, 0, 16, 3, 4, 65535);
        DUE.is("36: the dead keep their names", -1, x.judge(0));
        DUE.is("36: missing", Due.NONE, x.judge(1));
        DUE.is("36: no such sheet", Due.BEYOND, x.judge(4));
        DUE.is("36: no such sheet", Due.BEYOND, x.judge(-1));
    }
}
