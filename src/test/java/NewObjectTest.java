/** Promise 1: a new object. */
public final class NewObjectTest {
    public static void main(String[] args) {
        SharedWindow window = new SharedWindow();
        int[] due = {0, 0, 0, -2, 0, 0, 0, 0, 1, 0, 0, 0};
        for (int what = 0; what < due.length; what++) {
            Due.is("count(" + what + ")", window.count(what), due[what]);
        }
        for (int turn = 0; turn < 12; turn++) {
            Due.is("rotaIs(" + turn + ")", window.rotaIs(turn), -2);
        }
        for (int house = 0; house < 16; house++) {
            Due.is("houseIs(" + house + ", 0)", window.houseIs(house, 0), -1);
            Due.is("seers(" + house + ")", window.seers(house), -1);
        }
        Due.no("undo", window.undo());
        Due.is("NONE", SharedWindow.NONE, -1);
        Due.end("NewObjectTest");
    }
}
