import java.util.ArrayList;
import java.util.List;

/**
 * Terms: the least and the greatest of each argument are taken, what is beyond them is refused; an act that answers an
 * ERROR changes nothing but what told() tells. Each refused call is done to one of two objects of the same calls, and
 * all that can be asked is asked of both then.
 */
public final class RefusedTest {
    private static final Due DUE = new Due("RefusedTest");
    private static final int BEYOND = 1;
    private static final int NONE = 2;
    private static final int STATE = 3;
    private static final int FULL = 4;
    private static final int KIND = 5;

    // What else is done to an object ahead of the refused call.
    private static final int PLAIN = 0;
    private static final int SIX_PEOPLE = 1;
    private static final int FULL_TAPE = 2;
    private static final int TWENTY_WAIT = 3;
    private static final int LAST_DAY = 4;
    private static final int NO_IMAGE = 5;

    public static void main(String[] args) {
        edgesOfWellsAndPeople();
        edgesOfTextsAndDays();
        edgesOfThoughts();
        edgesOfSheetsAndCounts();
        errorsOfPeople();
        errorsOfThoughts();
        errorsOfSheets();
        errorsOfWhatIsFull();
        theFirstOfTwoErrors();
        DUE.end();
    }

    private static void edgesOfWellsAndPeople() {
        edges("water", 0, 0, 7, 4, 5);
        edges("water", 1, 0, 99, 4, 5);
        edges("road", 0, 0, 7, 4, 3, 5);
        edges("road", 1, 0, 7, 4, 3, 5);
        edges("road", 2, 0, 20, 4, 3, 5);
        edges("owe", 0, 0, 7, 4, 3, 5);
        edges("owe", 1, 0, 7, 4, 3, 5);
        edges("owe", 2, 0, 9999, 4, 3, 5);
        edges("ofWell", 0, 0, 7, 4, 0);
        edges("ofWell", 1, 0, 4, 4, 0);
        edges("rain", 0, 0, 9, 5);
        edges("person", 0, 0, 69, 5, 5);
        edges("person", 1, 0, 7, 5, 5);
        edges("ofPerson", 0, 0, 4, 1, 0);
        edges("ofPerson", 1, 0, 8, 1, 0);
        edges("become", 0, 0, 4, 1, 11);
        edges("become", 1, 0, 69, 1, 11);
        edges("as", 0, 0, 4, 1, 0);
        edges("as", 1, 0, 6, 1, 0);
    }

    private static void edgesOfTextsAndDays() {
        edges("feed", 1, 1, 8, 0x31, 1);
        edges("text", 0, 0, 1, 0);
        edges("law", 0, 0, 1, 0, 1, 2, 3);
        edges("drink", 0, 0, 4, 0);
        edges("go", 0, 0, 4, 0, 6);
        edges("go", 1, 0, 7, 0, 6);
        edges("pay", 0, 0, 4, 0, 6, 1);
        edges("pay", 1, 0, 7, 0, 6, 1);
        edges("pay", 2, 1, 9999, 0, 6, 1);
        edges("days", 0, 1, 60, 5);
        edges("loose", 0, 1, 40, 5);
    }

    private static void edgesOfThoughts() {
        for (String act : new String[] {"soonest", "drinks"}) {
            edges(act, 0, 0, 4, 0, 2, 0);
            edges(act, 1, 0, 7, 0, 2, 0);
            edges(act, 2, 0, 255, 0, 2, 0);
        }
        edges("reach", 0, 0, 4, 0, 0, 0);
        edges("reach", 1, 0, 255, 0, 0, 0);
        edges("reach", 2, 0, 1, 0, 0, 0);
        edges("dry", 0, 0, 4, 0, 0);
        edges("dry", 1, 0, 1, 0, 0);
        edges("shortest", 0, 0, 7, 0, 0);
        edges("shortest", 1, 0, 7, 0, 0);
        edges("walked", 0, 0, 3, 0);
        edges("alive", 0, 0, 3, 0, 0, 0);
        edges("alive", 1, 0, 4, 0, 0, 0);
        edges("alive", 2, 0, 255, 0, 0, 0);
        edges("grown", 0, 0, 7, 0, 5, 5);
        edges("grown", 1, 0, 100, 0, 5, 5);
        edges("grown", 2, 0, 20, 0, 5, 5);
    }

    private static void edgesOfSheetsAndCounts() {
        edges("voice", 0, 0, 4, 0, 0, 5);
        edges("voice", 1, 0, 3, 0, 0, 5);
        edges("sheet", 0, 0, 3, 0, 8, 5);
        edges("put", 0, 0, 3, 0, 0, 5);
        edges("put", 1, 0, 4, 0, 0, 5);
        edges("move", 0, 0, 3, 0, 0, 0, 0, 1);
        edges("move", 1, 0, 3, 0, 0, 0, 0, 2);
        edges("move", 2, 0, 3, 0, 0, 0, 0, 1);
        edges("move", 3, 0, 3, 0, 0, 0, 0, 2);
        edges("move", 4, 0, 5, 0, 0, 0, 0, 1);
        edges("waters", 0, 0, 3, 0);
        edges("judge", 0, 0, 3, 0);
        edges("count", 0, 0, 10, 0);
        edges("told", 0, 1, 5, 1);
        for (int bits : new int[] {-8, 1, 7, 9, 15, 17, 24, 31, 33, 64, Integer.MIN_VALUE, Integer.MAX_VALUE}) {
            refused(PLAIN, BEYOND, "sheet", 0, bits, 5);
        }
        for (int bits : new int[] {8, 16, 32}) {
            refused(PLAIN, BEYOND, "sheet", 0, bits, 41);
            refused(PLAIN, BEYOND, "sheet", 0, bits, Integer.MAX_VALUE);
            refused(PLAIN, STATE, "sheet", 0, bits, -1);
            refused(PLAIN, STATE, "sheet", 0, bits, Integer.MIN_VALUE);
            taken("sheet", 0, bits, 0);
            taken("sheet", 0, bits, 40);
        }
        taken("sheet", 0, 0, 41);
        taken("sheet", 0, 0, -1);
    }

    private static void errorsOfPeople() {
        for (int well = 0; well < 8; well++) {
            refused(PLAIN, BEYOND, "road", well, well, 0);
            refused(PLAIN, BEYOND, "owe", well, well, 0);
        }
        refused(PLAIN, KIND, "as", 0, 1);
        refused(PLAIN, STATE, "drink", 2);
        refused(PLAIN, STATE, "drink", 3);
        refused(PLAIN, BEYOND, "go", 0, 1);
        refused(PLAIN, BEYOND, "go", 2, 5);
        refused(PLAIN, STATE, "go", 2, 1);
        refused(PLAIN, STATE, "go", 0, 6);
        refused(PLAIN, BEYOND, "pay", 0, 1, 1);
        refused(PLAIN, BEYOND, "pay", 2, 2, 1);
        refused(PLAIN, STATE, "pay", 2, 3, 1);
        refused(PLAIN, STATE, "pay", 3, 3, 1);
        refused(PLAIN, STATE, "pay", 0, 2, 42);
        refused(LAST_DAY, STATE, "days", 2);
        refused(LAST_DAY, STATE, "loose", 2);
    }

    private static void errorsOfThoughts() {
        for (String act : new String[] {"soonest", "drinks"}) {
            refused(PLAIN, STATE, act, 2, 2, 0);
            refused(PLAIN, STATE, act, 2, 7, 0);
            refused(PLAIN, NONE, act, 0, 7, 0);
            refused(PLAIN, NONE, act, 0, 0, 255);
        }
        refused(PLAIN, STATE, "reach", 2, 0, 0);
        refused(PLAIN, STATE, "reach", 2, 0, 1);
        refused(PLAIN, STATE, "dry", 2, 0);
        refused(PLAIN, STATE, "dry", 2, 1);
        refused(PLAIN, NONE, "net");
        refused(PLAIN, NONE, "shortest", 0, 7);
        for (int sheet = 1; sheet < 4; sheet++) {
            refused(PLAIN, NONE, "walked", sheet);
            refused(PLAIN, NONE, "alive", sheet, 0, 255);
        }
    }

    private static void errorsOfSheets() {
        refused(PLAIN, NONE, "trace", 9);
        refused(PLAIN, NONE, "trace", -1);
        refused(PLAIN, NONE, "trace", Integer.MAX_VALUE);
        refused(PLAIN, NONE, "trace", Integer.MIN_VALUE);
        refused(PLAIN, NONE, "put", 3, 0, 5);
        refused(PLAIN, NONE, "move", 3, 0, 0, 0, 1);
        refused(PLAIN, NONE, "move", 0, 0, 3, 0, 1);
        refused(PLAIN, KIND, "move", 0, 0, 1, 0, 1);
        refused(PLAIN, NONE, "waters", 3);
        refused(PLAIN, NONE, "judge", 3);
        refused(NO_IMAGE, NONE, "restore");
    }

    private static void errorsOfWhatIsFull() {
        refused(SIX_PEOPLE, FULL, "person", 0, 0);
        refused(SIX_PEOPLE, FULL, "person", 69, 7);
        refused(FULL_TAPE, FULL, "feed", 0x31, 1);
        refused(FULL_TAPE, FULL, "feed", -1, 8);
        refused(TWENTY_WAIT, FULL, "tell", 0);
        refused(TWENTY_WAIT, FULL, "tell", Integer.MIN_VALUE);
    }

    private static void theFirstOfTwoErrors() {
        refused(SIX_PEOPLE, BEYOND, "person", 70, 0);
        refused(SIX_PEOPLE, BEYOND, "person", 0, 8);
        refused(PLAIN, BEYOND, "as", 5, 1);
        refused(FULL_TAPE, BEYOND, "feed", 0x31, 0);
        refused(FULL_TAPE, BEYOND, "feed", 0x31, 9);
        refused(PLAIN, BEYOND, "go", 2, 8);
        refused(PLAIN, BEYOND, "pay", 2, 3, 0);
        refused(PLAIN, BEYOND, "pay", 3, 8, 1);
        refused(PLAIN, BEYOND, "pay", 0, 1, 9999);
        refused(LAST_DAY, BEYOND, "days", 61);
        refused(LAST_DAY, BEYOND, "loose", 41);
        for (String act : new String[] {"soonest", "drinks"}) {
            refused(PLAIN, BEYOND, act, 2, 8, 0);
            refused(PLAIN, BEYOND, act, 2, 2, 256);
        }
        refused(PLAIN, BEYOND, "reach", 2, 256, 0);
        refused(PLAIN, BEYOND, "reach", 2, 0, 2);
        refused(PLAIN, BEYOND, "dry", 2, 2);
        refused(PLAIN, BEYOND, "alive", 3, 5, 0);
        refused(PLAIN, BEYOND, "alive", 3, 0, 256);
        refused(PLAIN, BEYOND, "sheet", 4, 8, -1);
        refused(PLAIN, BEYOND, "sheet", 0, 24, -1);
        refused(PLAIN, NONE, "put", 3, -1, 5);
        refused(PLAIN, BEYOND, "move", 3, 0, 4, 0, 1);
        refused(PLAIN, BEYOND, "move", -1, 0, 3, 0, 1);
        refused(PLAIN, NONE, "move", 0, -1, 3, 0, 1);
        refused(PLAIN, NONE, "move", 3, 0, 1, 0, -1);
        refused(PLAIN, KIND, "move", 0, 0, 1, 0, -1);
    }

    /** What is beyond this argument's edges is refused; the edges themselves are not beyond. */
    private static void edges(String act, int argument, int least, int most, long... v) {
        long[] edge = v.clone();
        for (int beyond : new int[] {least - 1, most + 1, Integer.MIN_VALUE, Integer.MAX_VALUE}) {
            edge[argument] = beyond;
            refused(PLAIN, BEYOND, act, edge);
        }
        for (int within : new int[] {least, most}) {
            edge[argument] = within;
            taken(act, edge);
        }
    }

    private static void taken(String act, long... v) {
        WellNames x = begun(PLAIN);
        int beyonds = x.told(BEYOND);
        Calls.call(x, act, v);
        DUE.is(written(act, v) + " is not beyond", beyonds, x.told(BEYOND));
    }

    private static void refused(int also, int error, String act, long... v) {
        String what = written(act, v) + ", " + also;
        WellNames x = begun(also);
        WellNames y = begun(also);
        DUE.is(what, -1000000000 - error, Calls.call(x, act, v));
        for (int k = BEYOND; k <= KIND; k++) {
            DUE.is(what + ": told " + k, y.told(k) + (k == error ? 1 : 0), x.told(k));
        }
        List<Integer> of = asked(x, also);
        List<Integer> due = asked(y, also);
        for (int i = 0; i < due.size(); i++) {
            DUE.is(what + ": question " + i + " behind it", due.get(i), of.get(i));
        }
    }

    private static String written(String act, long... v) {
        StringBuilder text = new StringBuilder(act).append('(');
        for (int i = 0; i < v.length; i++) {
            text.append(i == 0 ? "" : ", ").append(v[i]);
        }
        return text.append(')').toString();
    }

    /** 0 -5- 1 -7- 2 -6- 3 -4- 4; nothing is as at first. */
    private static WellNames begun(int also) {
        WellNames x = new WellNames();
        for (int well = 0; well < 4; well++) {
            x.water(well, 20 + well);
            x.owe(well, well + 1, 40 + well);
            x.owe(well + 1, well, 9);
        }
        x.road(0, 1, 5);
        x.road(1, 2, 7);
        x.road(2, 3, 6);
        x.road(3, 4, 4);
        people(x);
        Due.text(x, 0, "m+t/5");
        Due.text(x, 1, "l-(l>9)");
        sheets(x);
        x.seed(77);
        if (also != NO_IMAGE) {
            x.image();
            x.image();
        }
        later(x);
        more(x, also);
        return x;
    }

    // The first has a name, the third is dead, the fourth has no water, the others none of these.
    private static void people(WellNames x) {
        x.person(3, 0);
        x.person(12, 1);
        x.person(25, 2);
        x.person(37, 4);
        x.person(69, 3);
        x.drink(0);
        x.drink(2);
        x.days(8);
        x.drink(0);
        x.drink(1);
        x.water(4, 5);
        x.road(2, 5, 9);
        x.go(2, 5);
        x.road(2, 5, 0);
        x.go(0, 1);
        x.drink(0);
    }

    private static void sheets(WellNames x) {
        Due.sheet(x, 0, 8, 0, 1, 2, 3, 4);
        Due.sheet(x, 1, 16, 0, 99, 7);
        x.sheet(2, 32, 0);
    }

    private static void later(WellNames x) {
        x.rain(3);
        x.days(1);
        x.water(6, 50);
        x.owe(6, 7, 70);
        x.become(3, 38);
        Due.feed(x, "d+");
        x.tell(1);
        x.tell(2);
        x.voice(4, 3, 5);
    }

    private static void more(WellNames x, int also) {
        if (also == SIX_PEOPLE) {
            x.person(41, 6);
        }
        if (also == FULL_TAPE) {
            Due.feed(x, "1+1+1+1+1+1+1+1+1+1+1+1+1+1+1+1+1+1+1+1+1+1+1+1+");
        }
        for (int i = 0; i < 18 && also == TWENTY_WAIT; i++) {
            x.tell(i);
        }
        for (int i = 0; i < 166 && also == LAST_DAY; i++) {
            x.days(60);
        }
        if (also == LAST_DAY) {
            x.days(29);
        }
    }

    /** All that can be asked, the last things by calls that change it. */
    private static List<Integer> asked(WellNames x, int also) {
        List<Integer> found = new ArrayList<>();
        askState(x, found);
        for (int i = 0; i < 10; i++) {
            found.add(x.trace(i));
        }
        for (int sheet = 0; sheet < 4; sheet++) {
            found.add(x.walked(sheet));
            found.add(x.judge(sheet));
            found.add(x.waters(sheet));
            for (int well = 0; well < 5; well++) {
                found.add(x.ofWell(well, 0));
            }
        }
        for (int a = 0; a < 8; a++) {
            for (int b = 0; b < 8; b++) {
                found.add(a < b ? x.road(a, b, 0) : a > b ? x.owe(a, b, 0) : 0);
            }
        }
        found.add(x.check());
        found.add(x.feed('9', also == FULL_TAPE ? 0 : 1));
        found.add(x.text(0));
        found.add(x.law(0, 3, 4, 5));
        // The image, if it can still be asked within 512 calls.
        if (also != LAST_DAY) {
            found.add(x.restore());
            askState(x, found);
            found.add(x.image());
        }
        return found;
    }

    private static void askState(WellNames x, List<Integer> found) {
        for (int what = 0; what < 11; what++) {
            found.add(x.count(what));
        }
        for (int well = 0; well < 8; well++) {
            for (int what = 0; what < 5; what++) {
                found.add(x.ofWell(well, what));
            }
        }
        for (int person = 0; person < x.count(0); person++) {
            for (int what = 0; what < 9; what++) {
                found.add(x.ofPerson(person, what));
            }
        }
        found.add(x.law(0, 7, 9, 2));
        found.add(x.law(1, 17, 9, 2));
        found.add(x.same());
    }
}
