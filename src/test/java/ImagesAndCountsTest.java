/** Promises 37 to 42: images, what is told. */
public final class ImagesAndCountsTest {
    private static final Due DUE = new Due("ImagesAndCountsTest");

    public static void main(String[] args) {
        image();
        restore();
        restoreOfFewer();
        restoreOfPlaces();
        tell();
        check();
        count();
        told();
        DUE.end();
    }

    private static void image() {
        WellNames x = new WellNames();
        DUE.is("37: once", 1, x.image());
        DUE.is("37: twice", 2, x.image());
        x.restore();
        DUE.is("37: how often isn't kept", 3, x.image());
        x.water(0, 5);
        x.image();
        x.water(0, 6);
        x.restore();
        DUE.is("37: in place of one ahead", 5, x.ofWell(0, 0));
    }

    private static WellNames filled() {
        WellNames x = new WellNames();
        x.rain(2);
        x.road(0, 1, 3);
        x.owe(0, 1, 70);
        x.person(33, 0);
        x.person(5, 1);
        x.drink(1);
        x.go(0, 1);
        x.days(4);
        Due.text(x, 0, "m");
        Due.text(x, 1, "l+1");
        Due.feed(x, "m+");
        x.tell(1);
        x.tell(0);
        x.seed(77);
        return x;
    }

    private static void restore() {
        WellNames x = filled();
        DUE.is("38: none", Due.NONE, x.restore());
        x.image();
        Due.sheet(x, 0, 8, 1);
        x.voice(0, 0, 1);
        x.rain(3);
        x.road(0, 1, 4);
        x.road(5, 6, 4);
        x.owe(0, 1, 71);
        x.owe(5, 6, 1);
        x.person(0, 7);
        x.become(0, 1);
        x.become(1, 12);
        x.drink(0);
        x.days(20);
        x.feed(0x31L, 1);
        Due.text(x, 0, "m+1");
        Due.text(x, 1, "l+m");
        Due.feed(x, "xxx");
        x.check();
        x.tell(5);
        x.tell(6);
        x.tell(7);
        x.loose(2);
        DUE.is("38: the hour", 7, x.restore());
        asFilled(x);
        DUE.is("38: sheets stay", 1, x.waters(0));
        DUE.is("38: the trace stays", 10, x.trace(0));
        DUE.is("38: what is told stays", 2, x.told(2) + x.told(1));
        DUE.is("38: the image stays", 7, x.restore());
        DUE.is("38: the image stays", 17, x.ofWell(0, 0));
    }

    private static void asFilled(WellNames x) {
        int[] counts = {2, 7, 4, 0, 17 + 16 + 6 * 17, 2, 70, 2, 2, 1, 77};
        for (int what = 0; what < counts.length; what++) {
            DUE.is("38: count " + what, counts[what], x.count(what));
        }
        int[] first = {3, 3, 1, -1, 7, 0, 36, 3, 0};
        int[] second = {0, 5, 1, 1, 4, 0, 12, 1, 0};
        for (int what = 0; what < 9; what++) {
            DUE.is("38: of the first " + what, first[what], x.ofPerson(0, what));
            DUE.is("38: of the second " + what, second[what], x.ofPerson(1, what));
        }
        DUE.is("38: nobody else", Due.BEYOND, x.ofPerson(2, 0));
        DUE.is("38: roads", 1, x.ofWell(0, 1));
        DUE.is("38: roads", 0, x.ofWell(5, 1));
        DUE.is("38: roads", 3, x.shortest(1, 0));
        DUE.is("38: a text", 5, x.law(0, 5, 0, 0));
        DUE.is("38: a text", 6, x.law(1, 5, 5, 0));
        x.feed('1', 1);
        DUE.is("38: the tape", 1, x.text(0));
        DUE.is("38: the tape", 6, x.law(0, 5, 0, 0));
        DUE.is("38: numbers that wait", 1, x.check());
    }

    private static void restoreOfFewer() {
        WellNames x = new WellNames();
        x.image();
        x.person(69, 3);
        x.drink(0);
        x.days(60);
        Due.text(x, 0, "7");
        x.restore();
        DUE.is("38: nobody", 0, x.count(0));
        DUE.is("38: no text", 1, x.law(0, 0, 0, 0));
        DUE.is("7: anew", 0, x.person(0, 1));
        int[] anew = {0, 0, 1, -1, 0, 0};
        for (int what = 0; what < anew.length; what++) {
            DUE.is("7: anew " + what, anew[what], x.ofPerson(0, what));
        }
    }

    private static void restoreOfPlaces() {
        WellNames x = new WellNames();
        x.road(0, 1, 3);
        x.person(20, 0);
        x.person(0, 1);
        x.tell(0);
        x.image();
        x.go(0, 1);
        x.drink(0);
        x.check();
        x.tell(2);
        x.days(20);
        DUE.is("38: all are dead", 2, x.count(3));
        DUE.is("38: the hour", 0, x.restore());
        int[] first = {2, 0, 0, -1, 0, 0};
        for (int what = 0; what < first.length; what++) {
            DUE.is("38: of the first " + what, first[what], x.ofPerson(0, what));
        }
        DUE.is("38: the other one", 1, x.ofPerson(1, 2));
        DUE.is("38: the number that waits", 0, x.check());
    }

    private static void tell() {
        WellNames x = new WellNames();
        for (int i = 1; i <= 20; i++) {
            DUE.is("39: how many", i, x.tell(0));
        }
        DUE.is("39: full", Due.FULL, x.tell(0));
        DUE.is("39: twenty wait", 20, x.count(8));
        DUE.is("40: none is dead", 0, x.check());
        DUE.is("40: none waits then", 0, x.count(8));
        DUE.is("39: anew", 1, x.tell(Integer.MIN_VALUE));
        DUE.is("40: not so", 1, x.check());
    }

    private static void check() {
        WellNames x = new WellNames();
        DUE.is("40: none waits", 0, x.check());
        x.person(0, 0);
        x.person(20, 0);
        x.person(20, 0);
        x.person(59, 0);
        x.days(6);
        int[] dead = {0, 0, 2, 2, 2, 2, 4, 4};
        for (int v : dead) {
            x.tell(v);
        }
        DUE.is("40: behind 1, 2, .. days", 0, x.check());
        DUE.is("40: only thought", 6, x.count(1));
        DUE.is("40: only thought", 6, x.ofPerson(0, 4));
        DUE.is("40: only thought", 15, x.ofWell(0, 0));
        DUE.is("40: only thought", 6, x.count(2));
        DUE.is("40: only thought", 0, x.count(3));
        for (int place = 0; place < dead.length; place++) {
            for (int i = 0; i < dead.length; i++) {
                x.tell(i < place ? dead[i] : dead[i] + 1);
            }
            DUE.is("40: the first that isn't so", 1 + place, x.check());
        }
        for (int i = 0; i < 20; i++) {
            x.tell(i < 2 ? 0 : i < 6 ? 2 : i < 19 ? 4 : 3);
        }
        DUE.is("40: the last of twenty", 20, x.check());
        for (int i = 0; i < 20; i++) {
            x.tell(i < 2 ? 0 : i < 6 ? 2 : 4);
        }
        DUE.is("40: all of twenty", 0, x.check());
        x.tell(-1);
        DUE.is("40: below", 1, x.check());
        x.days(3);
        x.become(0, 20);
        DUE.is("40: two are dead", 2, x.count(3));
        x.tell(3);
        DUE.is("40: one above the limit dies the next day", 0, x.check());
        x.tell(2);
        DUE.is("40: not so", 1, x.check());
    }

    private static void count() {
        WellNames x = filled();
        int[] counts = {2, 7, 4, 0, 17 + 16 + 6 * 17, 2, 70, 2, 2, 0, 77};
        for (int what = 0; what < counts.length; what++) {
            DUE.is("41: count " + what, counts[what], x.count(what));
        }
        x.days(20);
        x.owe(6, 2, 30);
        x.voice(1, 3, 0);
        DUE.is("41: dead", 1, x.count(3));
        DUE.is("41: owed in all", 100, x.count(6));
        DUE.is("41: bodies", 4, x.count(9));
        DUE.is("41: no such thing", Due.BEYOND, x.count(11));
        DUE.is("41: no such thing", Due.BEYOND, x.count(-1));
        x.seed(-1000000001);
        DUE.is("41: any number", -1000000001, x.count(10));
        DUE.is("41: is no error", 2, x.told(1));
    }

    private static void told() {
        WellNames x = new WellNames();
        for (int k = 1; k <= 5; k++) {
            DUE.is("42: none", 0, x.told(k));
        }
        DUE.is("42: another k", Due.BEYOND, x.told(0));
        DUE.is("42: another k", Due.BEYOND, x.told(6));
        DUE.is("42: another k", Due.BEYOND, x.told(-1));
        DUE.is("42: counted, too", 3, x.told(1));
        x.trace(0);
        x.trace(0);
        DUE.is("42: none", 2, x.told(2));
        x.sheet(0, 8, -1);
        DUE.is("42: state", 1, x.told(3));
        for (int i = 0; i < 10; i++) {
            x.person(0, 0);
        }
        DUE.is("42: full", 4, x.told(4));
        for (int i = 0; i < 5; i++) {
            x.as(0, 1);
        }
        DUE.is("42: kind", 5, x.told(5));
        x.image();
        x.as(0, 1);
        x.restore();
        DUE.is("42: no image keeps it", 6, x.told(5));
        DUE.is("42: the others stay", 3, x.told(1));
        DUE.is("42: the others stay", 2, x.told(2));
        DUE.is("42: the others stay", 1, x.told(3));
        DUE.is("42: the others stay", 4, x.told(4));
    }
}
