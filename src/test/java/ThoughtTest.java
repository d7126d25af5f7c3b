/** Promises 20 to 28: what would be. */
public final class ThoughtTest {
    private static final Due DUE = new Due("ThoughtTest");

    public static void main(String[] args) {
        soonest();
        soonestAtTheEdges();
        soonestByText();
        drinks();
        reach();
        aboveTheLimit();
        dry();
        net();
        shortest();
        walked();
        alive();
        aliveOnOneSpot();
        grown();
        DUE.end();
    }

    /** 0 -6- 1 -6- 2 -6- 3, and 0 -10- 4 -9- 3; 5 apart. */
    private static WellNames line() {
        WellNames x = new WellNames();
        x.road(0, 1, 6);
        x.road(1, 2, 6);
        x.road(2, 3, 6);
        x.road(0, 4, 10);
        x.road(4, 3, 9);
        x.person(0, 0);
        return x;
    }

    private static void soonest() {
        WellNames x = line();
        DUE.is("20: where one stands", 0, x.soonest(0, 0, 0));
        DUE.is("20: where one stands, barred", Due.NONE, x.soonest(0, 0, 1));
        DUE.is("20: straight", 6, x.soonest(0, 1, 0));
        DUE.is("20: by drinks", 18, x.soonest(0, 3, 0));
        DUE.is("20: one drink is enough", 18, x.soonest(0, 3, 2));
        DUE.is("20: the other way is longer", 19, x.soonest(0, 3, 6));
        DUE.is("20: no drink ahead", Due.NONE, x.soonest(0, 3, 22));
        DUE.is("20: it is barred itself", Due.NONE, x.soonest(0, 3, 8));
        DUE.is("20: apart", Due.NONE, x.soonest(0, 5, 0));
        x.water(3, 0);
        DUE.is("20: no water there", Due.NONE, x.soonest(0, 3, 0));
        x.water(3, 1);
        DUE.is("20: just enough water", 18, x.soonest(0, 3, 0));
        x.water(1, 0);
        x.water(2, 0);
        DUE.is("20: dry on the way", 19, x.soonest(0, 3, 0));
        x.water(0, 0);
        DUE.is("20: without a drink at first", 19, x.soonest(0, 3, 0));
        x.days(3);
        x.water(0, 0);
        x.water(1, 0);
        x.water(2, 0);
        DUE.is("20: thirst counts", Due.NONE, x.soonest(0, 3, 0));
        x.water(0, 1);
        DUE.is("20: but a drink at first", 19, x.soonest(0, 3, 0));
        DUE.is("20: told is the water", 1, x.ofWell(0, 0));
        x.drink(0);
        DUE.is("20: it is one's name", 0, x.soonest(0, 0, 255));
        DUE.is("20: no such set", Due.BEYOND, x.soonest(0, 0, 256));
        DUE.is("20: no such set", Due.BEYOND, x.soonest(0, 0, -1));
        DUE.is("20: no such well", Due.BEYOND, x.soonest(0, 8, 0));
        DUE.is("20: no such well", Due.BEYOND, x.soonest(0, -1, 0));
        DUE.is("20: nobody there", Due.BEYOND, x.soonest(1, 0, 0));
        x.days(13);
        DUE.is("20: dead, though it is the name", Due.STATE, x.soonest(0, 0, 0));
        DUE.is("20: beyond comes ahead", Due.BEYOND, x.soonest(0, 8, 0));
    }

    /** Roads of one hour, of twenty, and of just so many that a drink behind or ahead of them is enough. */
    private static void soonestAtTheEdges() {
        WellNames x = new WellNames();
        x.road(0, 1, 1);
        x.road(1, 2, 12);
        x.road(2, 3, 1);
        x.person(0, 0);
        DUE.is("20: one hour", 1, x.soonest(0, 1, 0));
        DUE.is("20: a drink, and twelve behind it", 13, x.soonest(0, 2, 0));
        DUE.is("20: thirteen", Due.NONE, x.soonest(0, 2, 2));
        DUE.is("21: thirteen", Due.NONE, x.drinks(0, 2, 2));
        DUE.is("22: thirteen", 3, x.reach(0, 2, 0));
        DUE.is("20: a drink at 2, and one hour", 14, x.soonest(0, 3, 0));
        DUE.is("20: twelve and one", Due.NONE, x.soonest(0, 3, 4));
        DUE.is("21: two on the way", 3, x.drinks(0, 3, 0));
        x.road(1, 2, 13);
        DUE.is("20: a drink, and thirteen behind it", Due.NONE, x.soonest(0, 2, 0));
        DUE.is("21: a drink, and thirteen behind it", Due.NONE, x.drinks(0, 2, 0));
        DUE.is("22: a drink, and thirteen behind it", 3, x.reach(0, 0, 0));
        x.road(1, 4, 10);
        x.road(4, 2, 10);
        DUE.is("20: thirteen is too far, around it isn't", 21, x.soonest(0, 2, 0));
        x.road(4, 2, 0);
        x.become(0, 18);
        x.road(1, 2, 20);
        DUE.is("20: a drink, and twenty behind it", 21, x.soonest(0, 2, 0));
        DUE.is("20: twenty and one", Due.NONE, x.soonest(0, 2, 2));
        x.road(0, 1, 0);
        DUE.is("20: no road any more", Due.NONE, x.soonest(0, 2, 0));
        DUE.is("20: where one stands", 0, x.soonest(0, 0, 0));
        x.water(0, 0);
        DUE.is("20: no water where one stands", Due.NONE, x.soonest(0, 0, 0));
        DUE.is("21: no water where one stands", Due.NONE, x.drinks(0, 0, 0));
        x.water(0, 1);
        DUE.is("20: just enough where one stands", 0, x.soonest(0, 0, 0));
        DUE.is("21: just enough where one stands", 1, x.drinks(0, 0, 0));
    }

    private static void soonestByText() {
        WellNames x = line();
        x.become(0, 35);
        Due.text(x, 0, "m+t+d");
        x.water(3, 4);
        x.water(4, 4);
        DUE.is("20: a camel needs more", Due.NONE, x.soonest(0, 3, 0));
        x.water(3, 5);
        DUE.is("20: a camel needs just this", 18, x.soonest(0, 3, 0));
        x.rain(0);
        x.days(1);
        DUE.is("20: needs by the day", Due.NONE, x.soonest(0, 3, 0));
        x.water(3, 6);
        DUE.is("20: the thirst doesn't count there", 18, x.soonest(0, 3, 0));
        x.become(0, 60);
        DUE.is("20: a beast without its number", 18, x.soonest(0, 3, 0));
        x.become(0, 63);
        DUE.is("20: a beast needs its number twice", Due.NONE, x.soonest(0, 3, 0));
        x.become(0, 3);
        Due.text(x, 1, "l*(l<7)+d");
        DUE.is("20: short roads cost, long ones nearly nothing", 18, x.soonest(0, 3, 0));
        DUE.is("20: without any drink", 19, x.soonest(0, 3, 247));
        Due.text(x, 1, "l*(l>6)");
        DUE.is("20: some cost nothing at all", 18, x.soonest(0, 3, 247));
        Due.text(x, 1, "l+8");
        DUE.is("20: too dry a land", Due.NONE, x.soonest(0, 1, 0));
        backToDrink();
        longAndShort();
    }

    private static void backToDrink() {
        WellNames x = new WellNames();
        x.road(0, 1, 4);
        x.road(1, 3, 4);
        x.road(0, 2, 3);
        x.person(0, 0);
        x.days(5);
        x.water(0, 0);
        x.water(1, 0);
        DUE.is("20: to 2 and back by 0", 14, x.soonest(0, 3, 0));
        DUE.is("21: to 2 and back by 0", 2, x.drinks(0, 3, 0));
        DUE.is("22: to 2 and back by 0", 15, x.reach(0, 0, 0));
        DUE.is("22: may drink at 2 and 3", 12, x.reach(0, 0, 1));
        DUE.is("23: without 2", 2, x.dry(0, 0));
        DUE.is("23: without 2", 2, x.dry(0, 1));
    }

    /** Roads as long and as short as they can be; the way begins at the last well. */
    private static void longAndShort() {
        WellNames x = new WellNames();
        x.road(7, 6, 20);
        x.road(6, 5, 1);
        x.road(5, 4, 20);
        x.road(4, 3, 1);
        x.person(30, 7);
        DUE.is("20: twenty and one", 21, x.soonest(0, 5, 0));
        DUE.is("20: all of them", 42, x.soonest(0, 3, 0));
        DUE.is("20: one drink at 5", 42, x.soonest(0, 3, 64));
        DUE.is("20: no drink at 6 and 5", Due.NONE, x.soonest(0, 3, 96));
        DUE.is("21: one drink ahead", 2, x.drinks(0, 3, 0));
        DUE.is("22: not the first wells", 248, x.reach(0, 0, 0));
        DUE.is("22: may drink there", 248, x.reach(0, 0, 1));
        x.become(0, 1);
        DUE.is("22: twenty is too long", 128, x.reach(0, 0, 0));
        Due.text(x, 1, "l=20|l=1");
        DUE.is("22: twenty asks for one", 248, x.reach(0, 0, 0));
        DUE.is("20: all of them", 42, x.soonest(0, 3, 0));
        DUE.is("21: none ahead", 1, x.drinks(0, 3, 0));
        Due.text(x, 1, "(l=1)*13");
        DUE.is("22: one is too long", 192, x.reach(0, 0, 0));
        Due.text(x, 1, "(l=20)*13");
        DUE.is("22: twenty is too long", 128, x.reach(0, 0, 0));
        DUE.is("22: one is enough", 1, x.ofWell(7, 1));
        DUE.is("5: roads of one hour", 2, x.ofWell(6, 1));
        DUE.is("5: roads of one hour", 1, x.ofWell(3, 1));
    }

    private static void drinks() {
        WellNames x = line();
        DUE.is("21: where one stands", 1, x.drinks(0, 0, 0));
        DUE.is("21: straight", 1, x.drinks(0, 1, 0));
        DUE.is("21: twelve without a drink", 1, x.drinks(0, 2, 0));
        DUE.is("21: one on the way", 2, x.drinks(0, 3, 0));
        DUE.is("21: one on the other way", 2, x.drinks(0, 3, 6));
        DUE.is("21: no drink on the way", Due.NONE, x.drinks(0, 3, 22));
        DUE.is("21: barred itself", Due.NONE, x.drinks(0, 3, 8));
        DUE.is("21: apart", Due.NONE, x.drinks(0, 5, 0));
        x.days(1);
        DUE.is("21: the thirst asks for one more", 2, x.drinks(0, 2, 0));
        DUE.is("21: at first or at 1", 2, x.drinks(0, 2, 1));
        DUE.is("21: neither, all around", 3, x.drinks(0, 2, 3));
        DUE.is("21: nor that", Due.NONE, x.drinks(0, 2, 19));
        DUE.is("21: but straight", 1, x.drinks(0, 1, 1));
        DUE.is("21: two on the way", 2, x.drinks(0, 3, 0));
        x.days(6);
        DUE.is("21: at first, too", 2, x.drinks(0, 1, 0));
        DUE.is("21: at first and on the way", 3, x.drinks(0, 3, 0));
        x.drink(0);
        DUE.is("21: it is one's name", 0, x.drinks(0, 0, 255));
        DUE.is("21: no such set", Due.BEYOND, x.drinks(0, 0, 256));
        DUE.is("21: no such set", Due.BEYOND, x.drinks(0, 0, -1));
        DUE.is("21: no such well", Due.BEYOND, x.drinks(0, 8, 0));
        DUE.is("21: nobody there", Due.BEYOND, x.drinks(-1, 0, 0));
        x.days(13);
        DUE.is("21: dead", Due.STATE, x.drinks(0, 0, 0));
        // A longer way may ask for fewer drinks, if the text gives less for long roads.
        WellNames y = line();
        Due.text(y, 1, "(l<9)*8");
        DUE.is("21: of any hours", 1, y.drinks(0, 3, 0));
        DUE.is("21: the soonest is another way", 18, y.soonest(0, 3, 0));
        DUE.is("21: seven drinks", 7, sevenDrinks());
    }

    private static int sevenDrinks() {
        WellNames x = new WellNames();
        for (int i = 0; i < 7; i++) {
            x.road(i, i + 1, 12);
        }
        x.person(0, 0);
        DUE.is("20: 84 hours", 84, x.soonest(0, 7, 0));
        x.days(1);
        DUE.is("21: eight drinks", 8, x.drinks(0, 7, 0));
        x.drink(0);
        return x.drinks(0, 7, 0);
    }

    private static void reach() {
        WellNames x = line();
        DUE.is("22: all but those apart", 31, x.reach(0, 0, 0));
        DUE.is("22: without a drink", 23, x.reach(0, 255, 0));
        DUE.is("22: becomes nobody", 0, x.reach(0, 255, 1));
        DUE.is("22: all that isn't barred", 25, x.reach(0, 6, 1));
        DUE.is("22: a barred well can be reached", 31, x.reach(0, 6, 0));
        x.water(3, 0);
        DUE.is("22: no water there", 23, x.reach(0, 0, 1));
        DUE.is("22: but alive there", 31, x.reach(0, 0, 0));
        x.days(8);
        DUE.is("22: the thirst counts", 1, x.reach(0, 255, 0));
        DUE.is("22: a drink at first", 23, x.reach(0, 254, 0));
        DUE.is("22: no such set", Due.BEYOND, x.reach(0, 256, 0));
        DUE.is("22: no such set", Due.BEYOND, x.reach(0, -1, 0));
        DUE.is("22: no such thing", Due.BEYOND, x.reach(0, 0, 2));
        DUE.is("22: no such thing", Due.BEYOND, x.reach(0, 0, -1));
        DUE.is("22: nobody there", Due.BEYOND, x.reach(1, 0, 0));
        x.days(5);
        DUE.is("22: dead", Due.STATE, x.reach(0, 0, 0));
        DUE.is("22: beyond comes ahead", Due.BEYOND, x.reach(0, 0, 2));
    }

    /** Who has become of another kind may be alive with more thirst than the limit. */
    private static void aboveTheLimit() {
        WellNames x = line();
        x.become(0, 30);
        x.days(20);
        x.become(0, 20);
        Due.text(x, 1, "0");
        DUE.is("22: a drink at first saves", 31, x.reach(0, 0, 0));
        DUE.is("22: without it one stays", 1, x.reach(0, 1, 0));
        DUE.is("20: a drink at first", 0, x.soonest(0, 0, 0));
        DUE.is("20: a drink at first, then away", 6, x.soonest(0, 1, 0));
        DUE.is("20: never", Due.NONE, x.soonest(0, 1, 1));
        DUE.is("21: alive where one stands", 1, x.drinks(0, 0, 0));
        DUE.is("21: a drink at first", 2, x.drinks(0, 3, 0));
        DUE.is("21: never", Due.NONE, x.drinks(0, 3, 1));
    }

    private static void dry() {
        WellNames x = line();
        x.road(4, 3, 0);
        DUE.is("23: of several the least", 0, x.dry(0, 0));
        DUE.is("23: all the others", 4, x.dry(0, 1));
        x.road(3, 5, 12);
        x.road(4, 0, 0);
        DUE.is("23: no drink at 3", 3, x.dry(0, 0));
        DUE.is("23: 5 isn't reached, 3 is no other", 3, x.dry(0, 1));
        x.days(8);
        DUE.is("23: none at first", 0, x.dry(0, 0));
        DUE.is("23: nothing but the own", 0, x.dry(0, 1));
        DUE.is("23: no such thing", Due.BEYOND, x.dry(0, 2));
        DUE.is("23: no such thing", Due.BEYOND, x.dry(0, -1));
        DUE.is("23: nobody there", Due.BEYOND, x.dry(1, 0));
        x.days(5);
        DUE.is("23: dead", Due.STATE, x.dry(0, 0));
        DUE.is("23: beyond comes ahead", Due.BEYOND, x.dry(0, 2));
    }

    private static void net() {
        WellNames x = line();
        DUE.is("24: apart", Due.NONE, x.net());
        x.road(5, 6, 20);
        x.road(6, 7, 1);
        DUE.is("24: two nets", Due.NONE, x.net());
        x.road(7, 4, 3);
        DUE.is("24: all hang together", 6 * 3 + 9 + 24, x.net());
        x.road(5, 4, 2);
        DUE.is("24: the dearest is left", 6 * 3 + 9 + 6, x.net());
        DUE.is("24: told", 2, x.told(2));
    }

    private static void shortest() {
        WellNames x = line();
        DUE.is("25: one and the same", 0, x.shortest(7, 7));
        DUE.is("25: thirst doesn't matter", 18, x.shortest(0, 3));
        DUE.is("25: both ways", 18, x.shortest(3, 0));
        DUE.is("25: straight", 10, x.shortest(0, 4));
        DUE.is("25: around", 15, x.shortest(2, 4));
        DUE.is("25: no way", Due.NONE, x.shortest(0, 5));
        x.road(0, 3, 20);
        DUE.is("25: the straight one is longer", 18, x.shortest(0, 3));
        DUE.is("25: no such well", Due.BEYOND, x.shortest(0, 8));
        DUE.is("25: no such well", Due.BEYOND, x.shortest(-1, 0));
        DUE.is("25: no such well", Due.BEYOND, x.shortest(8, 8));
        Due.text(x, 1, "0");
        x.reach(0, 0, 0);
        DUE.is("25: by lengths", 18, x.shortest(0, 3));
    }

    private static void walked() {
        WellNames x = line();
        DUE.is("26: missing", Due.NONE, x.walked(0));
        Due.sheet(x, 0, 8);
        DUE.is("26: no numbers", Due.NONE, x.walked(0));
        Due.sheet(x, 0, 8, 7);
        DUE.is("26: one well", 0, x.walked(0));
        Due.sheet(x, 0, 16, 0, 1, 1, 0, 4, 3, 2);
        DUE.is("26: a row", 6 + 0 + 6 + 10 + 9 + 6, x.walked(0));
        Due.sheet(x, 0, 32, 0, 2);
        DUE.is("26: no road straight", Due.NONE, x.walked(0));
        Due.sheet(x, 0, 32, 0, 1, 8);
        DUE.is("26: no well", Due.NONE, x.walked(0));
        Due.sheet(x, 0, 32, -1);
        DUE.is("26: no well", Due.NONE, x.walked(0));
        Due.sheet(x, 0, 8, 256, 257);
        DUE.is("26: the lowest bits", 6, x.walked(0));
        Due.sheet(x, 0, 32, Integer.MIN_VALUE, 0);
        DUE.is("26: no well", Due.NONE, x.walked(0));
        x.road(2, 0, 5);
        Due.sheet(x, 0, 32, 1, 8);
        DUE.is("26: no well behind a well", Due.NONE, x.walked(0));
        Due.sheet(x, 0, 32, 8, 8);
        DUE.is("26: no well twice", Due.NONE, x.walked(0));
        x.sheet(0, 0, 1);
        DUE.is("26: missing again", Due.NONE, x.walked(0));
        DUE.is("26: no such sheet", Due.BEYOND, x.walked(4));
        DUE.is("26: no such sheet", Due.BEYOND, x.walked(-1));
    }

    private static void alive() {
        WellNames x = line();
        DUE.is("27: missing", Due.NONE, x.alive(1, 0, 0));
        Due.sheet(x, 1, 8);
        DUE.is("27: no numbers", Due.NONE, x.alive(1, 0, 0));
        Due.sheet(x, 1, 8, 5);
        DUE.is("27: one well", 1, x.alive(1, 0, 0));
        Due.sheet(x, 1, 8, 0, 1, 2, 3);
        DUE.is("27: eighteen hours are too many", 0, x.alive(1, 0, 0));
        DUE.is("27: a drink at 1", 1, x.alive(1, 0, 2));
        DUE.is("27: a drink at 2, just in time", 1, x.alive(1, 0, 4));
        DUE.is("27: a drink at the last is too late", 0, x.alive(1, 0, 8));
        DUE.is("27: the first is drunk from anyway", 0, x.alive(1, 0, 1));
        for (int well = 0; well < 8; well++) {
            x.water(well, 0);
        }
        DUE.is("27: whatever water there is", 1, x.alive(1, 0, 2));
        x.rain(0);
        x.days(13);
        DUE.is("27: death doesn't matter", 1, x.alive(1, 0, 2));
        DUE.is("27: nor does thirst", 1, x.alive(1, 0, 4));
        x.become(0, 16);
        DUE.is("27: by the limit of the kind", 1, x.alive(1, 0, 0));
        x.become(0, 15);
        DUE.is("27: by the limit of the kind", 0, x.alive(1, 0, 0));
        Due.text(x, 1, "l-(d=13)");
        DUE.is("27: by the text", 1, x.alive(1, 0, 0));
        Due.text(x, 1, "l-(m=4)");
        DUE.is("27: by the text, m", 0, x.alive(1, 0, 0));
        Due.text(x, 1, "l");
        x.become(0, 3);
        Due.sheet(x, 1, 8, 0, 1, 2, 1);
        DUE.is("27: a drink, and twelve behind it", 1, x.alive(1, 0, 2));
        x.road(1, 2, 7);
        DUE.is("27: a drink, and fourteen behind it", 0, x.alive(1, 0, 2));
        x.road(1, 2, 6);
        x.road(2, 3, 7);
        Due.sheet(x, 1, 8, 0, 1, 2, 3);
        DUE.is("27: a drink, and thirteen behind it", 0, x.alive(1, 0, 2));
        x.road(1, 2, 6);
        Due.sheet(x, 1, 8, 0, 2);
        DUE.is("27: no road straight", Due.NONE, x.alive(1, 0, 255));
        Due.sheet(x, 1, 8, 0, 9);
        DUE.is("27: no well", Due.NONE, x.alive(1, 0, 255));
        Due.sheet(x, 1, 8, 0, 1, 2, 3, 3, 9);
        DUE.is("27: no well, though dead ahead", Due.NONE, x.alive(1, 0, 0));
        DUE.is("27: no such sheet", Due.BEYOND, x.alive(4, 0, 0));
        DUE.is("27: no such sheet", Due.BEYOND, x.alive(-1, 0, 0));
        DUE.is("27: nobody there", Due.BEYOND, x.alive(1, 1, 0));
        DUE.is("27: no such set", Due.BEYOND, x.alive(1, 0, 256));
        DUE.is("27: no such set", Due.BEYOND, x.alive(1, 0, -1));
    }

    private static void aliveOnOneSpot() {
        WellNames x = line();
        Due.sheet(x, 1, 8, 0, 1, 1, 1, 2);
        DUE.is("27: who stays doesn't thirst", 1, x.alive(1, 0, 0));
        Due.text(x, 1, "l+1");
        DUE.is("27: two roads, and two more", 0, x.alive(1, 0, 0));
        x.become(0, 12);
        DUE.is("27: no text for who stays", 1, x.alive(1, 0, 0));
        WellNames y = line();
        Due.sheet(y, 2, 16, 0, 1, 0, 1);
        DUE.is("27: the first is drunk from once alone", 0, y.alive(2, 0, 0));
        DUE.is("27: but each time, if it is in the set", 1, y.alive(2, 0, 1));
        DUE.is("27: nor has the person's place a part in it", 1, atFive(y));
    }

    private static int atFive(WellNames y) {
        int somebody = y.person(16, 5);
        return y.alive(2, somebody, 0);
    }

    private static void grown() {
        WellNames x = new WellNames();
        x.owe(2, 0, 15);
        x.owe(2, 1, 9);
        x.owe(2, 7, 9999);
        x.owe(0, 2, 500);
        DUE.is("28: now", 10023, x.grown(2, 0, 20));
        DUE.is("28: each by itself, cut", 16 + 9 + 9999, x.grown(2, 1, 10));
        DUE.is("28: twice", 17 + 9 + 9999, x.grown(2, 2, 10));
        DUE.is("28: by nothing", 10023, x.grown(2, 100, 0));
        DUE.is("28: a hundred days", 3 * 9999, x.grown(2, 100, 20));
        DUE.is("28: 500", 500 + 5, x.grown(0, 1, 1));
        DUE.is("28: 500", 500 + 5 + 5, x.grown(0, 2, 1));
        x.owe(0, 2, 9900);
        DUE.is("28: just cut", 9999, x.grown(0, 1, 1));
        x.owe(0, 2, 99);
        DUE.is("28: not a whole one", 99, x.grown(0, 9, 1));
        x.owe(0, 2, 500);
        DUE.is("28: nothing is owed", 0, x.grown(1, 100, 20));
        DUE.is("28: only thought", 10523, x.count(6));
        DUE.is("28: too many days", Due.BEYOND, x.grown(2, 101, 0));
        DUE.is("28: below", Due.BEYOND, x.grown(2, -1, 0));
        DUE.is("28: too much", Due.BEYOND, x.grown(2, 0, 21));
        DUE.is("28: below", Due.BEYOND, x.grown(2, 0, -1));
        DUE.is("28: no such name", Due.BEYOND, x.grown(8, 0, 0));
        DUE.is("28: no such name", Due.BEYOND, x.grown(-1, 0, 0));
    }
}
