/** Promises 27 to 31: sheet, cell, copy, hill, taken. */
public final class HostTest {
    private static final int MIN = Integer.MIN_VALUE, MAX = Integer.MAX_VALUE;
    private static final int[] FAR = {MIN, MIN + 1, -1000, 1000, MAX - 1, MAX};

    public static void main(String[] args) {
        sheet();
        cell();
        cellsOfSorts();
        copy();
        copyOverItself();
        hill();
        hillOutside();
        taken();
        Due.end();
    }

    private static void sheet() {
        NextHouseUp x = new NextHouseUp();
        Due.due("sheet", x.sheet(0, 0, 40), 1);
        Due.due("its last", x.cell(0, 39, 1), 1);
        Due.due("none behind it", x.cell(0, 40, 1), -12);
        Due.due("sheet 41", x.sheet(0, 0, 41), -2);
        Due.due("sheet -1", x.sheet(0, 0, -1), -14);
        Due.due("sheet of sort 3, -1", x.sheet(0, 3, -1), -2);
        Due.due("sheet of sort -2", x.sheet(0, -2, 1), -2);
        Due.due("sheet 4", x.sheet(4, 0, -1), -2);
        Due.due("sheet -1", x.sheet(-1, 0, 1), -2);
        Due.due("what is refused changes nothing", x.cell(0, 39, 1), 1);
        Due.due("of none", x.sheet(0, 2, 0), 1);
        Due.due("none", x.cell(0, 0, 1), -12);
        Due.due("missing", x.sheet(0, -1, 7), 1);
        Due.due("missing", x.cell(0, 0, 1), -11);
        Due.due("missing again, n does not matter", x.sheet(0, -1, 41), 1);
        Due.due("n does not matter", x.sheet(0, -1, MIN), 1);
        Due.due("n does not matter", x.sheet(0, -1, MAX), 1);
        for (int far : FAR) {
            Due.due("sheet far", x.sheet(far, 0, 1), -2);
            Due.due("sort far", x.sheet(0, far, 1), -2);
            Due.due("n far", x.sheet(0, 0, far), far < 0 ? -14 : -2);
        }
        Due.due("still missing", x.cell(0, 0, 1), -11);
        NextHouseUp y = new NextHouseUp();
        y.person(0, 0, 7);
        y.person(0, 0, 1);
        y.set(1, 0, 0);
        y.send(0, 1);
        Due.fill(y, 3, 2, 5, 6, 7);
        y.sheet(3, 2, 3);
        y.person(0, 0, 6);
        Due.due("all 0 again: a neighbour into house 0", y.hill(3, 2, 0, 1), 1);
        Due.due("in house 0", y.told(3, 5), 0);
        Due.due("a neighbour", y.told(3, 4), 0);
        Due.due("whose number is 0", y.told(3, 2), 0);
    }

    private static void cell() {
        NextHouseUp x = new NextHouseUp();
        Due.due("missing", x.cell(3, 0, 1), -11);
        Due.due("missing, outside", x.cell(3, -1, 1), -11);
        Due.due("no sheet", x.cell(4, 0, 1), -2);
        Due.due("no sheet", x.cell(-1, 0, 1), -2);
        x.sheet(3, 1, 2);
        Due.due("0", x.cell(3, 0, MAX), 1);
        Due.due("1", x.cell(3, 1, MIN), 1);
        Due.due("2", x.cell(3, 2, 0), -12);
        Due.due("-1", x.cell(3, -1, 0), -12);
        for (int far : FAR) {
            Due.due("sheet far", x.cell(far, 0, 0), -2);
            Due.due("far", x.cell(3, far, 0), -12);
        }
    }

    /** Whether a person of the kind that item 0 holds would come: the only way to see an item. */
    private static void kindHeld(int sort, int v, int kind) {
        NextHouseUp x = new NextHouseUp();
        Due.fill(x, 0, sort, v, 1, 2);
        Due.due("sort " + sort + " of " + v, x.hill(0, sort, 0, 1), kind < 0 ? 0 : 1);
        Due.due("sort " + sort + " holds of " + v, x.told(0, 4), kind < 0 ? -1000 : kind);
    }

    private static void cellsOfSorts() {
        kindHeld(0, 5, 5);
        kindHeld(0, 256 + 5, 5);
        kindHeld(0, -256 + 3, 3);
        kindHeld(0, 0x12345602, 2);
        kindHeld(0, 255, -1);
        kindHeld(1, 256 + 5, -1);
        kindHeld(1, 65536 + 5, 5);
        kindHeld(1, -65536 + 4, 4);
        kindHeld(1, 65535, -1);
        kindHeld(2, 65536 + 5, -1);
        kindHeld(2, 4, 4);
        kindHeld(2, MIN, -1);
    }

    private static void copy() {
        NextHouseUp x = new NextHouseUp();
        Due.fill(x, 0, 0, 1, 2, 3);
        Due.fill(x, 1, 0, 4, 5, 6, 7);
        Due.fill(x, 2, 1, 4, 5, 6, 7);
        Due.due("copy", x.copy(0, 1, 1, 2, 2), 2);
        Due.due("person by what came", x.hill(1, 0, 1, 1), 1);
        Due.due("kind", x.told(0, 4), 5);
        Due.due("number", x.told(0, 2), 2);
        Due.due("house", x.told(0, 5), 3);
        Due.due("nothing at the end", x.copy(0, 3, 1, 4, 0), 0);
        Due.due("nothing behind it", x.copy(0, 4, 1, 4, 0), -12);
        Due.due("nothing behind the other's", x.copy(0, 3, 1, 5, 0), -12);
        Due.due("one too many", x.copy(0, 1, 1, 0, 3), -12);
        Due.due("one too many there", x.copy(0, 0, 1, 2, 3), -12);
        Due.due("from -1", x.copy(0, -1, 1, 0, 1), -12);
        Due.due("to -1", x.copy(0, 0, 1, -1, 1), -12);
        Due.due("n -1", x.copy(0, 1, 1, 1, -1), -12);
        Due.due("unlike sorts", x.copy(0, 0, 2, 0, 1), -13);
        Due.due("unlike sorts, outside", x.copy(0, -1, 2, 0, -1), -13);
        Due.due("to a missing one", x.copy(0, 0, 3, 0, 1), -11);
        Due.due("of a missing one", x.copy(3, -1, 0, 0, 1), -11);
        Due.due("of a missing one to itself", x.copy(3, 0, 3, 0, 0), -11);
        Due.due("of a missing one to none", x.copy(3, 0, 4, 0, 0), -2);
        Due.due("of none to a missing one", x.copy(-1, 0, 3, 0, 0), -2);
        for (int far : FAR) {
            Due.due("sheet far", x.copy(far, 0, 1, 0, 1), -2);
            Due.due("other far", x.copy(0, 0, far, 0, 1), -2);
            Due.due("i far", x.copy(0, far, 1, 0, 1), -12);
            Due.due("j far", x.copy(0, 0, 1, far, 1), -12);
            Due.due("n far", x.copy(0, 0, 1, 0, far), -12);
            Due.due("i and n far", x.copy(0, far, 1, 0, MAX), -12);
            Due.due("j and n far", x.copy(0, 0, 1, far, MAX), -12);
        }
        x.person(0, 0, 0);
        Due.due("refusals changed nothing", x.hill(1, 0, 0, 1), 1);
        Due.due("kind", x.told(2, 4), 4);
        Due.due("house", x.told(2, 5), 2);
    }

    private static void copyOverItself() {
        NextHouseUp x = new NextHouseUp();
        Due.fill(x, 0, 2, 3, 4, 5, 9, 9, 9);
        Due.due("up", x.copy(0, 0, 0, 1, 3), 3);
        Due.due("person", x.hill(0, 2, 1, 1), 1);
        Due.due("as they were", x.told(0, 4) * 100 + x.told(0, 2) * 10 + x.told(0, 5), 345);
        Due.fill(x, 0, 2, 9, 9, 1, 2, 3);
        Due.due("down", x.copy(0, 2, 0, 1, 3), 3);
        Due.due("person", x.hill(0, 2, 1, 1), 1);
        Due.due("as they were", x.told(1, 4) * 100 + x.told(1, 2) * 10 + x.told(1, 5), 123);
    }

    private static void hill() {
        NextHouseUp x = new NextHouseUp();
        Due.fill(x, 0, 1, 9, 0, 9, 7, 6, 0, 0, 1, 1, 6, 5, 0, 6, 4, 3, 2);
        Due.due("none asked", x.hill(0, 1, 0, 0), 0);
        Due.due("five", x.hill(0, 1, 1, 5), 3);
        Due.due("three came", x.count(0), 3);
        Due.due("the first", x.told(0, 4) * 100 + x.told(0, 2) * 10 + x.told(0, 5), 97);
        Due.due("the third", x.told(1, 4) * 100 + x.told(1, 2) * 10 + x.told(1, 5), 116);
        Due.due("the fifth", x.told(2, 4) * 100 + x.told(2, 2) * 10 + x.told(2, 5), 432);
        Due.due("again none", x.hill(0, 1, 1, 5), 0);
        Due.fill(x, 1, 0, 0, 0, 0, 0, 0, 1, 0, 0, 3);
        Due.due("until all have come", x.hill(1, 0, 0, 3), 2);
        Due.due("five came", x.count(0), 5);
        Due.due("n 6", x.hill(1, 0, 0, 6), -2);
        Due.due("n -1", x.hill(1, 0, 0, -1), -2);
        Due.due("sort -1", x.hill(1, -1, 0, 0), -2);
        Due.due("sort 3", x.hill(1, 3, 0, 0), -2);
        Due.due("sheet 4", x.hill(4, 0, 0, 0), -2);
        Due.due("another sort, of none", x.hill(1, 1, 0, 0), -13);
        Due.due("another sort, outside", x.hill(1, 2, -1, 1), -13);
        Due.due("missing", x.hill(2, 1, 0, 0), -11);
        Due.due("missing, of no sort", x.hill(2, 3, 0, 0), -2);
        for (int far : FAR) {
            Due.due("sheet far", x.hill(far, 0, 0, 1), -2);
            Due.due("sort far", x.hill(1, far, 0, 1), -2);
            Due.due("from far", x.hill(1, 0, far, 1), -12);
            Due.due("n far", x.hill(1, 0, 0, far), -2);
        }
    }

    private static void hillOutside() {
        NextHouseUp x = new NextHouseUp();
        Due.fill(x, 0, 0, 1, 2, 3, 2, 3, 4, 5, 6);
        Due.due("from -1", x.hill(0, 0, -1, 2), -12);
        Due.due("none came", x.count(0), 0);
        Due.due("the third is not whole", x.hill(0, 0, 0, 3), -12);
        Due.due("what stood ahead came", x.count(0), 2);
        Due.due("who", x.told(1, 4) * 100 + x.told(1, 2) * 10 + x.told(1, 5), 234);
        Due.due("one at the end", x.hill(0, 0, 5, 1), 1);
        Due.due("not whole", x.hill(0, 0, 6, 1), -12);
        Due.due("behind all", x.hill(0, 0, 8, 1), -12);
        Due.due("none of far", x.hill(0, 0, 8, 0), 0);
        Due.due("one came", x.count(0), 3);
    }

    private static void taken() {
        int[] above = {-1, 0, 0, 1, 2, 0};
        for (int kind = 0; kind < 6; kind++) {
            NextHouseUp x = new NextHouseUp();
            x.person(kind, 7, 0);
            for (int k = 0; k < 6; k++) {
                boolean under = k == kind || k == above[kind] || above[kind] > 0 && k == above[above[kind]];
                Due.due("kind " + kind + " taken for " + k, x.taken(0, k), under ? 7 : -13);
            }
            Due.due("k 6", x.taken(0, 6), -2);
            Due.due("k -1", x.taken(0, -1), -2);
            Due.due("of nobody, k 6", x.taken(1, 6), -2);
            Due.due("of nobody", x.taken(1, 0), -11);
            Due.due("of nobody", x.taken(-1, 5), -11);
            for (int far : FAR) {
                Due.due("k far", x.taken(0, far), -2);
                Due.due("one far", x.taken(far, 0), -11);
            }
        }
    }
}
