/** Promise 2. Each test stands for the sentence, or the part of one, that is written over it. */
public final class AtomTest {
    public static void main(String[] args) {
        everyAtomIsTaken();
        numbersOutside();
        theLastCell();
        cellsOfAllKindsCount();
        fullIsTestedFirst();
        everyCallMakesANewCell();
        Due.finish();
    }

    /** "Else answers the new cell's number", for every k of 0..15. */
    private static void everyAtomIsTaken() {
        FreezeDif x = new FreezeDif(1);
        for (int k = 0; k < 16; k++) {
            Due.due("atom " + k, x.atom(k), k);
        }
        for (int k = 1; k < 16; k++) {
            x.forget();
            x.equal(k - 1, k);
            Due.due("atoms " + (k - 1) + " and " + k + " are not the same", x.solve(), 0);
        }
    }

    /** "k outside 0..15: BAD", and no cell is made. */
    private static void numbersOutside() {
        for (int k : Make.outside(0, 15)) {
            FreezeDif x = new FreezeDif(1);
            Due.due("atom " + k, x.atom(k), FreezeDif.BAD);
            Due.due("cells", x.clear(), 0);
            Due.due("the first cell", x.atom(15), 0);
            Due.due("atom " + k + ", one cell there", x.atom(k), FreezeDif.BAD);
            Due.due("cells", x.clear(), 1);
        }
    }

    /** "48 cells are there: FULL", and with 47 there is room for one more. */
    private static void theLastCell() {
        int[] numbers = {0, 7, 15};
        for (int k : numbers) {
            FreezeDif x = Make.atoms(1, 46);
            Due.due("the 47th cell", x.atom(k), 46);
            Due.due("the 48th cell", x.atom(k), 47);
            Due.due("the 49th cell", x.atom(k), FreezeDif.FULL);
            Due.due("the 49th cell again", x.atom(k), FreezeDif.FULL);
            Due.due("cells", x.clear(), 48);
            Due.due("the first cell after clear", x.atom(k), 0);
        }
    }

    /** "48 cells are there", of whatever kind. */
    private static void cellsOfAllKindsCount() {
        FreezeDif x = Make.mixedCells(47);
        Due.due("47 mixed cells there", x.atom(0), 47);
        Due.due("48 mixed cells there", x.atom(0), FreezeDif.FULL);
        Due.due("cells", x.clear(), 48);
    }

    /** "Tested in this order": a full object answers FULL for a wrong k too; one cell less, BAD. */
    private static void fullIsTestedFirst() {
        for (int k : Make.outside(0, 15)) {
            FreezeDif x = Make.atoms(1, 47);
            Due.due("47 cells, atom " + k, x.atom(k), FreezeDif.BAD);
            Due.due("the 48th cell", x.atom(0), 47);
            Due.due("48 cells, atom " + k, x.atom(k), FreezeDif.FULL);
            Due.due("cells", x.clear(), 48);
        }
    }

    /** "Every call makes a new cell, also for an atom that is there." */
    private static void everyCallMakesANewCell() {
        FreezeDif x = new FreezeDif(1);
        for (int cell = 0; cell < 48; cell++) {
            Due.due("the same atom again", x.atom(3), cell);
        }
        x.equal(0, 47);
        x.equal(47, 24);
        Due.due("they are the same term", x.solve(), 1);
    }
}
