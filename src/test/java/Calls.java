/** A call of WellNames by its name. */
final class Calls {
    private Calls() {
    }

    static int call(WellNames x, String name, long... v) {
        int[] a = new int[5];
        for (int i = 0; i < v.length; i++) {
            a[i] = (int) v[i];
        }
        switch (name) {
            case "water": return x.water(a[0], a[1]);
            case "road": return x.road(a[0], a[1], a[2]);
            case "owe": return x.owe(a[0], a[1], a[2]);
            case "ofWell": return x.ofWell(a[0], a[1]);
            case "rain": return x.rain(a[0]);
            case "person": return x.person(a[0], a[1]);
            case "ofPerson": return x.ofPerson(a[0], a[1]);
            case "become": return x.become(a[0], a[1]);
            case "as": return x.as(a[0], a[1]);
            case "feed": return x.feed(v[0], a[1]);
            case "text": return x.text(a[0]);
            case "law": return x.law(a[0], a[1], a[2], a[3]);
            case "drink": return x.drink(a[0]);
            case "go": return x.go(a[0], a[1]);
            case "pay": return x.pay(a[0], a[1], a[2]);
            case "days": return x.days(a[0]);
            case "loose": return x.loose(a[0]);
            case "same": return x.same();
            case "soonest": return x.soonest(a[0], a[1], a[2]);
            case "drinks": return x.drinks(a[0], a[1], a[2]);
            case "reach": return x.reach(a[0], a[1], a[2]);
            case "dry": return x.dry(a[0], a[1]);
            case "net": return x.net();
            case "shortest": return x.shortest(a[0], a[1]);
            case "walked": return x.walked(a[0]);
            case "alive": return x.alive(a[0], a[1], a[2]);
            case "grown": return x.grown(a[0], a[1], a[2]);
            case "seed": return x.seed(a[0]);
            case "voice": return x.voice(a[0], a[1], a[2]);
            case "trace": return x.trace(a[0]);
            case "sheet": return x.sheet(a[0], a[1], a[2]);
            case "put": return x.put(a[0], a[1], a[2]);
            case "move": return x.move(a[0], a[1], a[2], a[3], a[4]);
            case "waters": return x.waters(a[0]);
            case "judge": return x.judge(a[0]);
            case "image": return x.image();
            case "restore": return x.restore();
            case "tell": return x.tell(a[0]);
            case "check": return x.check();
            case "count": return x.count(a[0]);
            case "told": return x.told(a[0]);
            default: throw new IllegalStateException(name);
        }
    }
}
