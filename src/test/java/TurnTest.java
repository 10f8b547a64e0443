/** Promise 2: turn. */
public final class TurnTest {
    public static void main(String[] args) {
        SharedWindow window = Due.street("a0;c4;p11", "");
        Due.yes("turn(0, 0)", window.turn(0, 0));
        Due.yes("turn(11, 15)", window.turn(11, 15));
        Due.yes("turn(5, 2)", window.turn(5, 2));
        Due.is("rotaIs(0)", window.rotaIs(0), 0);
        Due.is("rotaIs(11)", window.rotaIs(11), 15);
        Due.is("rotaIs(5)", window.rotaIs(5), 2);
        Due.yes("turn(5, -1)", window.turn(5, -1));
        Due.is("rotaIs(5)", window.rotaIs(5), -2);
        String before = Due.all(window);
        int[][] wrong = {{-1, 0}, {12, 0}, {0, 1}, {0, 16}, {0, -2}, {0, 14}, {12, -1}, {-1, -1},
            {Integer.MIN_VALUE, 0}, {Integer.MAX_VALUE, 0}, {0, Integer.MIN_VALUE}, {0, Integer.MAX_VALUE}, {0, 32}};
        for (int[] each : wrong) {
            Due.no("turn(" + each[0] + ", " + each[1] + ")", window.turn(each[0], each[1]));
        }
        Due.same("turn refused", Due.all(window), before);
        Due.end("TurnTest");
    }
}
