/** Promises 1 to 10: wells, roads, people. */
public final class WellsAndPeopleTest {
    private static final Due DUE = new Due("WellsAndPeopleTest");

    public static void main(String[] args) {
        newObject();
        water();
        road();
        owe();
        ofWell();
        rain();
        person();
        ofPerson();
        become();
        as();
        DUE.end();
    }

    private static void newObject() {
        WellNames x = new WellNames();
        int[] first = {0, 0, 0, 0, 72, 1, 0, 0, 0, 0, 1};
        for (int what = 0; what < first.length; what++) {
            DUE.is("1: count " + what, first[what], x.count(what));
        }
        for (int a = 0; a < 8; a++) {
            DUE.is("1: water of " + a, 9, x.ofWell(a, 0));
            for (int what = 1; what < 5; what++) {
                DUE.is("1: ofWell " + a + " " + what, 0, x.ofWell(a, what));
            }
            for (int b = 0; b < 8; b++) {
                DUE.is("1: no road, nothing owed", a == b ? Due.BEYOND : 0, x.road(a, b, 0));
                DUE.is("1: no road, nothing owed", a == b ? Due.BEYOND : 0, x.owe(a, b, 0));
            }
        }
        for (int k = 2; k <= 5; k++) {
            DUE.is("1: told " + k, 0, x.told(k));
        }
        DUE.is("1: nobody", Due.BEYOND, x.ofPerson(0, 0));
        DUE.is("1: no image", Due.NONE, x.restore());
        DUE.is("1: no trace", Due.NONE, x.trace(0));
        for (int sheet = 0; sheet < 4; sheet++) {
            DUE.is("1: missing sheet", Due.NONE, x.waters(sheet));
        }
        DUE.is("1: no text of needs", 3, x.law(0, 5, 8, 2));
        DUE.is("1: no text of thirst", 5, x.law(1, 5, 8, 2));
    }

    private static void water() {
        WellNames x = new WellNames();
        DUE.is("2: what it was", 9, x.water(3, 0));
        DUE.is("2: what it was", 0, x.water(3, 99));
        DUE.is("2: it became so", 99, x.ofWell(3, 0));
        DUE.is("2: no other", 9, x.ofWell(2, 0));
        DUE.is("2: above", Due.BEYOND, x.water(3, 100));
        DUE.is("2: below", Due.BEYOND, x.water(3, -1));
        DUE.is("2: no such well", Due.BEYOND, x.water(8, 1));
        DUE.is("2: no such well", Due.BEYOND, x.water(-1, 1));
        DUE.is("2: far out", Due.BEYOND, x.water(Integer.MIN_VALUE, Integer.MAX_VALUE));
        DUE.is("2: nothing changed", 99, x.ofWell(3, 0));
        DUE.is("2: told", 5, x.told(1));
    }

    private static void road() {
        WellNames x = new WellNames();
        DUE.is("3: none ahead", 0, x.road(2, 5, 20));
        DUE.is("3: the same both ways", 20, x.road(5, 2, 1));
        DUE.is("3: the same both ways", 1, x.road(2, 5, 7));
        DUE.is("3: one road", 1, x.ofWell(2, 1));
        DUE.is("3: one road", 1, x.ofWell(5, 1));
        DUE.is("3: one and the same", Due.BEYOND, x.road(2, 2, 7));
        DUE.is("3: too long", Due.BEYOND, x.road(2, 5, 21));
        DUE.is("3: below", Due.BEYOND, x.road(2, 5, -1));
        DUE.is("3: no such well", Due.BEYOND, x.road(8, 5, 1));
        DUE.is("3: no such well", Due.BEYOND, x.road(2, -1, 1));
        DUE.is("3: taken away", 7, x.road(5, 2, 0));
        DUE.is("3: none then", 0, x.road(2, 5, 0));
        DUE.is("3: none then", 0, x.ofWell(5, 1));
    }

    private static void owe() {
        WellNames x = new WellNames();
        DUE.is("4: what it was", 0, x.owe(1, 2, 9999));
        DUE.is("4: not both ways", 0, x.owe(2, 1, 3));
        DUE.is("4: what it was", 9999, x.owe(1, 2, 10));
        DUE.is("4: in all", 13, x.count(6));
        DUE.is("4: one and the same", Due.BEYOND, x.owe(1, 1, 0));
        DUE.is("4: above", Due.BEYOND, x.owe(1, 2, 10000));
        DUE.is("4: below", Due.BEYOND, x.owe(1, 2, -1));
        DUE.is("4: no such name", Due.BEYOND, x.owe(-1, 2, 1));
        DUE.is("4: no such name", Due.BEYOND, x.owe(1, 8, 1));
        DUE.is("4: nothing changed", 13, x.count(6));
    }

    private static void ofWell() {
        WellNames x = new WellNames();
        x.road(4, 0, 3);
        x.road(4, 1, 3);
        x.road(6, 4, 13);
        x.owe(4, 0, 100);
        x.owe(4, 7, 20);
        x.owe(0, 4, 1);
        x.person(0, 4);
        x.person(0, 4);
        x.person(0, 4);
        x.person(0, 1);
        x.drink(0);
        x.drink(2);
        DUE.is("5: water", 7, x.ofWell(4, 0));
        DUE.is("5: roads", 3, x.ofWell(4, 1));
        DUE.is("5: who has its name", 5, x.ofWell(4, 2));
        DUE.is("5: who is at it", 7, x.ofWell(4, 3));
        DUE.is("5: what it owes", 120, x.ofWell(4, 4));
        x.go(2, 6);
        DUE.is("5: the dead have no name", 1, x.ofWell(4, 2));
        DUE.is("5: the dead are nowhere", 0, x.ofWell(6, 3));
        DUE.is("5: who is left", 3, x.ofWell(4, 3));
        DUE.is("5: no such thing", Due.BEYOND, x.ofWell(4, 5));
        DUE.is("5: no such thing", Due.BEYOND, x.ofWell(4, -1));
        DUE.is("5: no such well", Due.BEYOND, x.ofWell(8, 0));
        DUE.is("5: no such well", Due.BEYOND, x.ofWell(-1, 9));
        DUE.is("5: each told once", 4, x.told(1));
        ofAFullWell();
    }

    private static void ofAFullWell() {
        WellNames x = new WellNames();
        for (int other = 0; other < 7; other++) {
            x.road(7, other, 1 + other);
            x.owe(7, other, 9999);
            x.owe(other, 7, 1);
        }
        for (int i = 0; i < 6; i++) {
            x.person(0, 7);
            x.drink(i);
        }
        DUE.is("5: six have drunk", 3, x.ofWell(7, 0));
        DUE.is("5: roads to all others", 7, x.ofWell(7, 1));
        DUE.is("5: all six have its name", 63, x.ofWell(7, 2));
        DUE.is("5: all six are at it", 63, x.ofWell(7, 3));
        DUE.is("5: the most that one can owe", 7 * 9999, x.ofWell(7, 4));
        DUE.is("8: the most that one can owe", 7 * 9999, x.ofPerson(5, 8));
        DUE.is("41: owed in all", 7 * 9999 + 7, x.count(6));
        DUE.is("19: fifteen pairs", 15, x.same());
        x.days(13);
        DUE.is("5: all are dead", 0, x.ofWell(7, 2) + x.ofWell(7, 3) + x.same());
        DUE.is("41: all are dead", 6, x.count(3));
    }

    private static void rain() {
        WellNames x = new WellNames();
        DUE.is("6: at first", 1, x.rain(9));
        DUE.is("6: what it was", 9, x.rain(0));
        DUE.is("6: above", Due.BEYOND, x.rain(10));
        DUE.is("6: below", Due.BEYOND, x.rain(-1));
        DUE.is("6: nothing changed", 0, x.count(5));
    }

    private static void person() {
        WellNames x = new WellNames();
        DUE.is("7: kind above", Due.BEYOND, x.person(70, 0));
        DUE.is("7: kind below", Due.BEYOND, x.person(-1, 0));
        DUE.is("7: no such well", Due.BEYOND, x.person(0, 8));
        DUE.is("7: no such well", Due.BEYOND, x.person(0, -1));
        for (int i = 0; i < 6; i++) {
            DUE.is("7: the number", i, x.person(69 - i, 7 - i));
        }
        DUE.is("7: full", Due.FULL, x.person(0, 0));
        DUE.is("7: beyond comes ahead", Due.BEYOND, x.person(0, 9));
        DUE.is("7: six", 6, x.count(0));
        int[] fourth = {6, 6, 4, -1, 0, 0, 36, 7, 0};
        for (int what = 0; what < fourth.length; what++) {
            DUE.is("7: of the fourth " + what, fourth[what], x.ofPerson(3, what));
        }
    }

    private static void ofPerson() {
        WellNames x = new WellNames();
        int[] limits = {12, 21, 8, 36, 21, 12, 36};
        int[] needs = {1, 1, 1, 1, 1, 1, 10};
        x.person(0, 3);
        for (int kind = 0; kind < 7; kind++) {
            x.become(0, kind * 10 + 9);
            DUE.is("8: kind", kind, x.ofPerson(0, 0));
            DUE.is("8: m", 9, x.ofPerson(0, 1));
            DUE.is("8: limit of " + kind, limits[kind], x.ofPerson(0, 6));
            DUE.is("8: needs of " + kind, needs[kind], x.ofPerson(0, 7));
        }
        x.become(0, 51);
        DUE.is("8: m by 2 is cut", 8, x.ofPerson(0, 6));
        x.become(0, 33);
        x.days(9);
        DUE.is("8: at", 3, x.ofPerson(0, 2));
        DUE.is("8: nobody's", -1, x.ofPerson(0, 3));
        DUE.is("8: thirst", 9, x.ofPerson(0, 4));
        DUE.is("8: a camel needs by its thirst", 3, x.ofPerson(0, 7));
        x.owe(3, 0, 40);
        x.owe(3, 1, 2);
        DUE.is("8: nobody owes nothing", 0, x.ofPerson(0, 8));
        x.become(0, 3);
        x.drink(0);
        DUE.is("8: the name", 3, x.ofPerson(0, 3));
        DUE.is("8: what the name owes", 42, x.ofPerson(0, 8));
        DUE.is("8: alive", 0, x.ofPerson(0, 5));
        x.days(13);
        DUE.is("8: dead", 1, x.ofPerson(0, 5));
        DUE.is("8: the dead one owes by the name", 42, x.ofPerson(0, 8));
        DUE.is("8: no such thing", Due.BEYOND, x.ofPerson(0, 9));
        DUE.is("8: no such thing", Due.BEYOND, x.ofPerson(0, -1));
        DUE.is("8: nobody there", Due.BEYOND, x.ofPerson(1, 0));
        DUE.is("8: nobody there", Due.BEYOND, x.ofPerson(-1, 0));
    }

    private static void become() {
        WellNames x = new WellNames();
        x.person(47, 2);
        DUE.is("9: the kind that one was", 4, x.become(0, 32));
        DUE.is("9: the kind that one was", 3, x.become(0, 20));
        DUE.is("9: m", 0, x.ofPerson(0, 1));
        DUE.is("9: kind above", Due.BEYOND, x.become(0, 70));
        DUE.is("9: kind below", Due.BEYOND, x.become(0, -1));
        DUE.is("9: nobody there", Due.BEYOND, x.become(1, 0));
        DUE.is("9: nothing changed", 2, x.ofPerson(0, 0));
        x.become(0, 30);
        x.days(20);
        x.become(0, 20);
        DUE.is("9: nobody dies of becoming", 0, x.ofPerson(0, 5));
        DUE.is("9: the thirst stays", 20, x.ofPerson(0, 4));
        x.days(1);
        DUE.is("9: but of the next day", 1, x.ofPerson(0, 5));
        DUE.is("9: the dead become too", 2, x.become(0, 30));
        DUE.is("9: and stay dead", 1, x.ofPerson(0, 5));
    }

    private static void as() {
        WellNames x = new WellNames();
        int[] above = {-1, 0, 0, 0, 1, 2, 3};
        x.person(0, 0);
        for (int kind = 0; kind < 7; kind++) {
            x.become(0, kind * 10 + kind + 1);
            for (int wanted = 0; wanted < 7; wanted++) {
                boolean so = wanted == kind || wanted == 0 || above[kind] == wanted;
                DUE.is("10: " + kind + " as " + wanted, so ? kind + 1 : Due.KIND, x.as(0, wanted));
            }
        }
        DUE.is("10: no such kind", Due.BEYOND, x.as(0, 7));
        DUE.is("10: no such kind", Due.BEYOND, x.as(0, -1));
        DUE.is("10: nobody there", Due.BEYOND, x.as(1, 0));
        DUE.is("10: told", 33, x.told(5));
    }
}
