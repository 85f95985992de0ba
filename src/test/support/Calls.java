/** The calls of the class by their names, so that a run of them can be kept and made again. */
public final class Calls {
    private Calls() {
    }

    public static int ask(BirthdayLot lot, String name, int... a) {
        switch (name) {
            case "feed": return lot.feed(a[0]);
            case "town": return lot.town();
            case "fault": return lot.fault();
            case "told": return lot.told(a[0]);
            case "person": return lot.person(a[0], a[1]);
            case "ticket": return lot.ticket(a[0], a[1]);
            case "right": return lot.right(a[0]);
            case "draw": return lot.draw(a[0]);
            case "lots": return lot.lots(a[0]);
            case "sell": return lot.sell(a[0], a[1]);
            case "pawn": return lot.pawn(a[0], a[1]);
            case "price": return lot.price(a[0], a[1]);
            case "undo": return lot.undo(a[0]);
            case "odds": return lot.odds(a[0], a[1]);
            case "never": return lot.never(a[0], a[1]);
            case "buy": return lot.buy(a[0], a[1], a[2], a[3]);
            case "evens": return lot.evens(a[0], a[1]);
            case "couples": return lot.couples(a[0], a[1]);
            case "see": return lot.see(a[0]);
            case "belief": return lot.belief(a[0]);
            case "likeliest": return lot.likeliest();
            case "candles": return lot.candles(a[0], a[1]);
            case "rows": return lot.rows(a[0], a[1]);
            case "sure": return lot.sure(a[0]);
            case "write": return lot.write(a[0]);
            case "judge": return lot.judge();
            case "ageBy": return lot.ageBy(a[0]);
            case "tear": return lot.tear();
            case "seed": return lot.seed(a[0]);
            case "keep": return lot.keep(a[0]);
            case "goBack": return lot.goBack(a[0]);
            default: throw new IllegalArgumentException(name);
        }
    }
}
