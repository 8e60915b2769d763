/** Promise 1, and the constants. */
public final class NewObjectTest {
    public static void main(String[] args) {
        Due due = new Due();
        LostBeforeSung x = new LostBeforeSung();
        due.be("NONE", LostBeforeSung.NONE, -1);
        int[] first = {0, 0, 3, 0, 0, 0, 1, 0};
        for (int what = 0; what < first.length; what++) {
            due.be("status(" + what + ")", x.status(what), first[what]);
        }
        for (int what = 12; what <= 16; what++) {
            due.be("status(" + what + ")", x.status(what), 0);
        }
        for (int s = -1; s <= 8; s++) {
            due.be("holds(" + s + ")", x.holds(s), -1);
        }
        due.be("personOf(0, 0)", x.personOf(0, 0), -2);
        due.be("songOf(0, 0)", x.songOf(0, 0), -2);
        due.be("back()", x.back(), -5);
        due.be("wipe()", x.wipe(), 0);
        due.end();
    }
}
