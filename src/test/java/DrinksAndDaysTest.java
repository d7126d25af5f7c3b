/** Promises 14 to 19: drinks, ways, days. */
public final class DrinksAndDaysTest {
    private static final Due DUE = new Due("DrinksAndDaysTest");

    public static void main(String[] args) {
        drink();
        justEnough();
        called();
        calledAheadOfNobody();
        go();
        goByText();
        limitsByWays();
        pay();
        days();
        limitsByDays();
        rainOverTheEdge();
        loose();
        same();
        DUE.end();
    }

    private static void drink() {
        WellNames x = new WellNames();
        x.person(0, 2);
        x.water(2, 2);
        x.days(1);
        x.water(2, 1);
        DUE.is("14: the name then", 2, x.drink(0));
        DUE.is("14: less water", 0, x.ofWell(2, 0));
        DUE.is("14: no thirst", 0, x.ofPerson(0, 4));
        DUE.is("14: too little water", Due.STATE, x.drink(0));
        DUE.is("14: nobody there", Due.BEYOND, x.drink(1));
        DUE.is("14: nobody there", Due.BEYOND, x.drink(-1));
        x.days(13);
        DUE.is("14: dead", Due.STATE, x.drink(0));
        DUE.is("14: nothing changed", 13, x.ofWell(2, 0));

        WellNames y = new WellNames();
        y.person(64, 1);
        y.rain(0);
        y.days(9);
        y.water(1, 6);
        DUE.is("14: a beast needs 1+9/4 and 4", Due.STATE, y.drink(0));
        y.water(1, 8);
        DUE.is("14: an odd hour, nobody's", -1, y.drink(0));
        DUE.is("14: by the thirst ahead", 1, y.ofWell(1, 0));
        DUE.is("14: no thirst", 0, y.ofPerson(0, 4));
        y.water(1, 99);
        Due.text(y, 0, "97+m");
        DUE.is("14: more than a well can have", Due.STATE, y.drink(0));
        y.become(0, 34);
        DUE.is("14: a camel drinks it all", -1, y.drink(0));
        DUE.is("14: by the text, held", 0, y.ofWell(1, 0));
        Due.text(y, 0, "0");
        DUE.is("14: needs nothing", -1, y.drink(0));
    }

    /** Of each kind and number: one less than it needs is too little, just as much is enough. */
    private static void justEnough() {
        for (int km = 0; km < 70; km++) {
            WellNames x = new WellNames();
            x.person(km, 5);
            x.rain(0);
            x.days(8);
            int camel = 1 + 8 / 4;
            int needs = km < 30 || km >= 40 && km < 60 ? 1 : km < 40 ? camel : camel + km % 10;
            DUE.is("8: needs of " + km, needs, x.ofPerson(0, 7));
            x.water(5, needs - 1);
            DUE.is("14: one too little for " + km, Due.STATE, x.drink(0));
            DUE.is("14: nothing is drunk by " + km, needs - 1, x.ofWell(5, 0));
            DUE.is("14: the thirst stays with " + km, 8, x.ofPerson(0, 4));
            x.water(5, needs);
            DUE.is("14: just enough for " + km, 5, x.drink(0));
            DUE.is("14: nothing is left by " + km, 0, x.ofWell(5, 0));
            DUE.is("14: no thirst with " + km, 0, x.ofPerson(0, 4));
        }
    }

    private static void calledAheadOfNobody() {
        int[] odd = {3, 3, 3, -1, 3, 3, -1};
        for (int kind = 0; kind < 7; kind++) {
            WellNames x = new WellNames();
            x.person(kind * 10, 3);
            x.days(1);
            DUE.is("14: kind " + kind + ", nobody's ahead, hour 1", odd[kind], x.drink(0));
            x.days(1);
            DUE.is("14: kind " + kind + ", hour 2", kind == 5 ? -1 : 3, x.drink(0));
            DUE.is("14: kind " + kind + " told", kind == 5 ? -1 : 3, x.ofPerson(0, 3));
        }
    }

    private static void called() {
        WellNames x = new WellNames();
        x.road(0, 1, 2);
        x.road(1, 2, 1);
        x.water(0, 99);
        for (int kind = 0; kind < 6; kind++) {
            x.person(kind * 10, 0);
        }
        int[] again = {0, 0, 0, 0, 0, -1};
        for (int i = 0; i < 6; i++) {
            DUE.is("14: called at first", 0, x.drink(i));
        }
        for (int i = 0; i < 6; i++) {
            DUE.is("14: called again", again[i], x.drink(i));
        }
        DUE.is("14: a foundling turns back", 0, x.drink(5));
        for (int i = 0; i < 6; i++) {
            x.go(i, 1);
        }
        int[] even = {1, 1, 1, 1, 0, 1};
        for (int i = 0; i < 6; i++) {
            DUE.is("14: called elsewhere, hour 12", even[i], x.drink(i));
        }
        x.go(0, 2);
        x.go(1, 2);
        x.go(2, 2);
        x.go(3, 2);
        x.go(4, 2);
        DUE.is("14: hour", 17, x.count(1));
        int[] odd = {2, 2, 2, 1, 0};
        for (int i = 0; i < 5; i++) {
            DUE.is("14: called elsewhere, hour 17", odd[i], x.drink(i));
        }
        x.become(4, 60);
        DUE.is("14: a beast as a camel", 0, x.drink(4));
        x.go(5, 2);
        x.become(4, 30);
        DUE.is("14: a camel at an even hour", 2, x.drink(4));
    }

    private static void go() {
        WellNames x = new WellNames();
        x.road(0, 1, 12);
        x.road(1, 2, 1);
        x.person(0, 0);
        x.person(9, 0);
        DUE.is("15: thirst then", 12, x.go(0, 1));
        DUE.is("15: alive at the limit", 0, x.ofPerson(0, 5));
        DUE.is("15: at", 1, x.ofPerson(0, 2));
        DUE.is("15: hour", 12, x.count(1));
        DUE.is("15: the day doesn't pass", 0, x.count(2));
        DUE.is("15: the others don't thirst", 0, x.ofPerson(1, 4));
        DUE.is("15: more than the limit", 13, x.go(0, 2));
        DUE.is("15: dead", 1, x.ofPerson(0, 5));
        DUE.is("15: dead there", 2, x.ofPerson(0, 2));
        DUE.is("15: hour", 13, x.count(1));
        DUE.is("15: its own, though dead", Due.BEYOND, x.go(0, 2));
        DUE.is("15: dead", Due.STATE, x.go(0, 1));
        DUE.is("15: no road", Due.STATE, x.go(1, 2));
        DUE.is("15: its own", Due.BEYOND, x.go(1, 0));
        DUE.is("15: no such well", Due.BEYOND, x.go(1, 8));
        DUE.is("15: no such well", Due.BEYOND, x.go(1, -1));
        DUE.is("15: nobody there", Due.BEYOND, x.go(2, 1));
        DUE.is("15: nothing changed", 13, x.count(1));
    }

    private static void goByText() {
        WellNames x = new WellNames();
        x.road(0, 1, 20);
        x.road(1, 2, 3);
        x.person(5, 0);
        x.days(2);
        Due.text(x, 1, "l-m*3+d");
        DUE.is("15: by the text", 2 + 7, x.go(0, 1));
        DUE.is("15: hour by the length", 22, x.count(1));
        DUE.is("15: not below 0", 9, x.go(0, 2));
        x.become(0, 20);
        Due.text(x, 1, "0");
        x.go(0, 1);
        DUE.is("15: dead by the limit alone", 1, x.ofPerson(0, 5));
    }

    private static int limitOf(int km) {
        int m = km % 10;
        int[] limits = {12, 12 + m, 8, 36, 12 + m, 8 + m / 2, 36};
        return limits[km / 10];
    }

    private static void limitsByWays() {
        for (int km = 0; km < 70; km++) {
            for (int more = 0; more < 2; more++) {
                WellNames x = new WellNames();
                int thirst = limitOf(km) + more;
                x.road(0, 1, 1);
                x.road(1, 2, 20);
                x.person(km, 0);
                x.water(1, 10);
                x.water(2, 10);
                Due.sheet(x, 0, 8, 0, 1);
                Due.text(x, 1, "" + thirst);
                DUE.is("22: " + km + " with " + thirst, more == 0 ? 3 : 1, x.reach(0, 255, 0));
                DUE.is("20: " + km + " with " + thirst, more == 0 ? 1 : Due.NONE, x.soonest(0, 1, 1));
                DUE.is("20: " + km + " with " + thirst + " twice", more == 0 ? 21 : Due.NONE, x.soonest(0, 2, 1));
                DUE.is("20: " + km + " with " + thirst + " twice", Due.NONE, x.soonest(0, 2, 3));
                DUE.is("21: " + km + " with " + thirst, more == 0 ? 2 : Due.NONE, x.drinks(0, 2, 1));
                DUE.is("27: " + km + " with " + thirst, 1 - more, x.alive(0, 0, 0));
                DUE.is("15: " + km + " with " + thirst, thirst, x.go(0, 1));
                DUE.is("15: " + km + " dead of " + thirst, more, x.ofPerson(0, 5));
            }
        }
    }

    private static void limitsByDays() {
        for (int km = 0; km < 70; km++) {
            WellNames x = new WellNames();
            x.person(km, 0);
            int limit = limitOf(km);
            DUE.is("17: alive at the limit of " + km, 0, x.days(limit));
            x.tell(1);
            DUE.is("40: dead the next day, " + km, 0, x.check());
            x.image();
            DUE.is("17: dead the next day, " + km, 1, x.days(1));
            DUE.is("17: with the thirst of that day, " + km, limit + 1, x.ofPerson(0, 4));
            x.restore();
            DUE.is("18: dead the next day, " + km, 1, x.loose(1));
            DUE.is("18: the dead thirst no more, " + km, 1, x.loose(40));
            DUE.is("18: with the thirst of that day, " + km, limit + 1, x.ofPerson(0, 4));
        }
    }

    private static void rainOverTheEdge() {
        for (int rain = 0; rain < 10; rain++) {
            WellNames x = new WellNames();
            x.rain(rain);
            for (int well = 0; well < 8; well++) {
                x.water(well, 88 + well);
            }
            x.days(1);
            for (int well = 0; well < 8; well++) {
                DUE.is("17: rain " + rain, Math.min(99, 88 + well + rain), x.ofWell(well, 0));
            }
        }
    }

    private static void pay() {
        WellNames y = new WellNames();
        y.person(0, 0);
        y.drink(0);
        y.owe(0, 7, 9999);
        DUE.is("16: all at once", 0, y.pay(0, 7, 9999));
        DUE.is("16: nothing is owed", Due.STATE, y.pay(0, 7, 1));
        y.owe(0, 7, 1);
        DUE.is("16: the least", 0, y.pay(0, 7, 1));
        DUE.is("16: not to the other one", 0, y.ofWell(7, 4));
        manyPayments();
    }

    private static void manyPayments() {
        WellNames x = new WellNames();
        x.person(0, 3);
        x.owe(3, 5, 9999);
        DUE.is("16: nobody's", Due.STATE, x.pay(0, 5, 1));
        x.drink(0);
        DUE.is("16: what is left", 9000, x.pay(0, 5, 999));
        DUE.is("16: what is left", 0, x.pay(0, 5, 9000));
        DUE.is("16: less is owed", Due.STATE, x.pay(0, 5, 1));
        x.owe(3, 5, 10);
        DUE.is("16: less is owed", Due.STATE, x.pay(0, 5, 11));
        DUE.is("16: no debt to that one", Due.STATE, x.pay(0, 4, 1));
        DUE.is("16: to its own name", Due.BEYOND, x.pay(0, 3, 1));
        DUE.is("16: nothing", Due.BEYOND, x.pay(0, 5, 0));
        DUE.is("16: below", Due.BEYOND, x.pay(0, 5, -1));
        DUE.is("16: above", Due.BEYOND, x.pay(0, 5, 10000));
        DUE.is("16: no such name", Due.BEYOND, x.pay(0, 8, 1));
        DUE.is("16: no such name", Due.BEYOND, x.pay(0, -1, 1));
        DUE.is("16: nobody there", Due.BEYOND, x.pay(1, 5, 1));
        DUE.is("16: nothing changed", 10, x.count(6));
        x.days(13);
        DUE.is("16: dead", Due.STATE, x.pay(0, 5, 1));
        DUE.is("16: its own name, though dead", Due.BEYOND, x.pay(0, 3, 1));
        DUE.is("16: nothing changed", 10, x.count(6));
    }

    private static void days() {
        WellNames x = new WellNames();
        x.person(0, 0);
        x.person(1, 0);
        x.person(20, 0);
        x.person(13, 0);
        x.water(7, 98);
        DUE.is("17: none dead", 0, x.days(8));
        DUE.is("17: water", 17, x.ofWell(0, 0));
        DUE.is("17: 99 at most", 99, x.ofWell(7, 0));
        DUE.is("17: day", 8, x.count(2));
        DUE.is("17: hour", 8, x.count(1));
        DUE.is("17: thirst", 8, x.ofPerson(0, 4));
        DUE.is("17: a child more than its limit", 1, x.days(1));
        DUE.is("17: the dead one's thirst", 9, x.ofPerson(2, 4));
        DUE.is("17: all that are dead", 3, x.days(4));
        DUE.is("17: the dead don't thirst", 9, x.ofPerson(2, 4));
        x.rain(9);
        DUE.is("17: none comes back", 4, x.days(60));
        DUE.is("17: rain", 99, x.ofWell(1, 0));
        DUE.is("17: too many", Due.BEYOND, x.days(61));
        DUE.is("17: none", Due.BEYOND, x.days(0));
        DUE.is("17: below", Due.BEYOND, x.days(-1));
        x.water(4, 0);
        x.rain(3);
        x.days(2);
        DUE.is("17: rain", 6, x.ofWell(4, 0));

        WellNames y = new WellNames();
        for (int i = 0; i < 166; i++) {
            y.days(60);
        }
        DUE.is("17: day", 9960, y.count(2));
        DUE.is("17: above 9999", Due.STATE, y.days(40));
        DUE.is("18: above 9999", Due.STATE, y.loose(40));
        DUE.is("17: beyond comes ahead", Due.BEYOND, y.days(61));
        DUE.is("17: nothing changed", 9960, y.count(2));
        DUE.is("18: nothing changed", 1, y.count(10));
        DUE.is("17: just 9999", 0, y.days(39));
        DUE.is("17: day", 9999, y.count(2));
        DUE.is("17: none more", Due.STATE, y.days(1));
        DUE.is("18: none more", Due.STATE, y.loose(1));
        lateHours();
    }

    // Past the 512th call, where what is answered is free: the hour comes near 99999 by no fewer.
    private static void lateHours() {
        WellNames x = new WellNames();
        x.road(0, 1, 20);
        x.person(0, 0);
        Due.text(x, 1, "0");
        for (int i = 0; i < 4999; i++) {
            x.go(0, 1 - i % 2);
        }
        DUE.is("15: hour", 99980, x.count(1));
        DUE.is("17: hour above 99999", Due.STATE, x.days(20));
        DUE.is("18: hour above 99999", Due.STATE, x.loose(20));
        DUE.is("15: hour above 99999", Due.STATE, x.go(0, 0));
        x.image();
        DUE.is("17: hour just 99999", 1, x.days(19));
        x.restore();
        DUE.is("18: hour just 99999", 1, x.loose(19));
        x.restore();
        x.road(0, 1, 19);
        DUE.is("15: just 99999", 0, x.go(0, 0));
        DUE.is("15: hour", 99999, x.count(1));
        x.road(0, 1, 1);
        DUE.is("15: hour above 99999", Due.STATE, x.go(0, 1));
        DUE.is("17: hour above 99999", Due.STATE, x.days(1));
    }

    private static void loose() {
        WellNames y = new WellNames();
        y.person(20, 0);
        DUE.is("18: alive at the limit", 0, y.loose(8));
        DUE.is("18: dead the next day", 1, y.loose(1));
        WellNames x = new WellNames();
        x.person(20, 0);
        int z = 1;
        int[] water = {9, 9, 9, 9, 9, 9, 9, 9};
        for (int day = 0; day < 40; day++) {
            z = z * 1103515245 + 12345;
            int well = (z >>> 8) % 8;
            z = z * 1103515245 + 12345;
            water[well] = (z >>> 8) % 20;
            for (int i = 0; i < 8; i++) {
                water[i] = Math.min(99, water[i] + 1);
            }
        }
        DUE.is("18: how many are dead", 1, x.loose(40));
        for (int i = 0; i < 8; i++) {
            DUE.is("18: water of " + i, water[i], x.ofWell(i, 0));
        }
        DUE.is("18: z", z, x.count(10));
        DUE.is("18: day", 40, x.count(2));
        DUE.is("18: hour", 40, x.count(1));
        DUE.is("18: none", Due.BEYOND, x.loose(0));
        DUE.is("18: too many", Due.BEYOND, x.loose(41));
        DUE.is("18: z stays", z, x.count(10));
    }

    private static void same() {
        WellNames y = new WellNames();
        DUE.is("19: nobody", 0, y.same());
        y.person(0, 0);
        y.drink(0);
        DUE.is("19: one alone", 0, y.same());
        y.person(0, 0);
        DUE.is("19: one with a name, one without", 0, y.same());
        y.drink(1);
        DUE.is("19: two", 1, y.same());
        WellNames x = new WellNames();
        for (int i = 0; i < 6; i++) {
            x.person(0, i / 4);
        }
        DUE.is("19: nobody's are not the same", 0, x.same());
        for (int i = 0; i < 6; i++) {
            x.drink(i);
        }
        DUE.is("19: six pairs and one", 7, x.same());
        x.become(0, 20);
        x.days(9);
        DUE.is("19: the dead are nobody", 4, x.same());
    }
}
