/** Promise 1: what a new object holds. */
public final class NewTest {
    public static void main(String[] args) {
        Due d = new Due();
        LemonGate x = new LemonGate();
        int[] recipe = {3, 3, 10, 10, 0, 8, 3, 3, 12, 1};
        for (int what = 0; what < recipe.length; what++) {
            d.due("of(" + what + ")", x.of(what), recipe[what]);
        }
        for (int quarter = 0; quarter < 32; quarter++) {
            d.due("heat", x.of(100 + quarter), 20);
            d.due("stand", x.of(200 + quarter), 0);
        }
        for (int what = 0; what <= 4; what++) {
            d.due("count(" + what + ")", x.count(what), 0);
        }
        for (int shelf = 0; shelf < 6; shelf++) {
            d.due("shelf " + shelf, x.taken(shelf, 0), -11);
        }
        for (int what = 0; what <= 7; what++) {
            d.due("told", x.told(what), -5);
        }
        for (int set = 1; set < 8; set++) {
            d.due("brings", x.brings(set, 0), 0);
        }
        for (int who = 0; who < 3; who++) {
            d.due("minutes", x.minutes(who, 0), 0);
        }
        for (int name = 0; name < 6; name++) {
            d.due("owes", x.owes(name), 0);
        }
        d.due("wiped", x.wiped(), 0);
        d.due("where", x.where(31, -1), LemonGate.STATE);
        d.due("back", x.back(), LemonGate.STATE);
        d.due("undo", x.undo(), LemonGate.STATE);
        d.due("redo", x.redo(), LemonGate.STATE);
        d.due("trace", x.trace(0), LemonGate.BAD);
        d.due("place", x.place(), 0);
        d.due("flow", x.of(1000), 0);
        d.due("BAD", LemonGate.BAD, -1);
        d.due("NOT", LemonGate.NOT, -2);
        d.due("FULL", LemonGate.FULL, -3);
        d.due("STATE", LemonGate.STATE, -5);
        d.due("VOID", LemonGate.VOID, -2000000000);
        d.end();
    }
}
