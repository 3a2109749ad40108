/** Promise 2. */
public final class AtomTest {
    public static void main(String[] args) {
        everyAtomHasACell();
        wrongNumbers();
        fullIsTestedFirst();
        Due.finish();
    }

    private static void everyAtomHasACell() {
        FreezeDif x = new FreezeDif(1);
        for (int k = 0; k < 16; k++) {
            Due.due("atom " + k, x.atom(k), k);
        }
        Due.due("an atom that is there", x.atom(3), 16);
        Due.due("the same one again", x.atom(3), 17);
        Due.due("it is the same term", x.equal(3, 17), 1);
        Due.due("solve", x.solve(), 1);
        Due.due("another atom is another term", x.equal(3, 4), 2);
        Due.due("solve", x.solve(), 0);
    }

    private static void wrongNumbers() {
        FreezeDif x = new FreezeDif(1);
        int[] wrong = {-1, 16, 17, 1000, Integer.MIN_VALUE, Integer.MAX_VALUE};
        for (int k : wrong) {
            Due.due("atom " + k, x.atom(k), FreezeDif.BAD);
        }
        Due.due("no cell was made", x.atom(15), 0);
    }

    private static void fullIsTestedFirst() {
        FreezeDif x = new FreezeDif(1);
        for (int i = 0; i < 48; i++) {
            Due.due("cell " + i, x.atom(i % 16), i);
        }
        Due.due("the 49th cell", x.atom(0), FreezeDif.FULL);
        Due.due("full and wrong", x.atom(16), FreezeDif.FULL);
        Due.due("full and wrong", x.atom(-1), FreezeDif.FULL);
        Due.due("cells", x.clear(), 48);
    }
}
