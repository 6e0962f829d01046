/** Promise 14: limboSize and limboCell. */
public final class Promise14LimboTest {
    private static final Check CHECK = new Check("promise 14");

    public static void main(String[] args) {
        CHECK.holds("`limboSize(k)` answers the number of entries of limbo list k (0..`LIMBO_CAP`)",
            Promise14LimboTest::sizesFromEmptyToFull);
        CHECK.holds("or -1 if k is not in 0..2.", Promise14LimboTest::sizeOfNoList);
        CHECK.holds("`limboCell(k, i)` answers entry i of limbo list k, where 0 is the first inserted",
            Promise14LimboTest::entriesInOrder);
        CHECK.holds("it answers -1 if k is not in 0..2", Promise14LimboTest::entryOfNoList);
        CHECK.holds("or i is not in `0..limboSize(k)-1`.", Promise14LimboTest::entryOutsideTheList);
        CHECK.holds("or i is not in `0..limboSize(k)-1`. [entries that an advance has freed]",
            Promise14LimboTest::entryOfAFreedList);
        CHECK.holds("Neither changes anything.", Promise14LimboTest::neitherChangesAnything);
        CHECK.end();
    }

    /** Each list in turn grows up to 32 entries and no further, beside the others. */
    private static void sizesFromEmptyToFull() {
        for (int advances = 0; advances < 3; advances++) {
            EpochReclaim x = Runs.selfLoop();
            Runs.advances(x, advances);
            int k = x.counter(EpochReclaim.C_EPOCH) % 3;
            int first = x.limboSize(k);
            int[] others = {x.limboSize((k + 1) % 3), x.limboSize((k + 2) % 3)};
            for (int n = first + 1; n <= 36; n++) {
                Runs.popWhole(x, 0);
                CHECK.same("limboSize(" + k + ")", x.limboSize(k), Math.min(n, EpochReclaim.LIMBO_CAP));
                CHECK.same("limboSize of the next list", x.limboSize((k + 1) % 3), others[0]);
                CHECK.same("limboSize of the list after", x.limboSize((k + 2) % 3), others[1]);
            }
        }
        EpochReclaim y = new EpochReclaim(8, 2, 3);
        for (int k = 0; k < 3; k++) {
            CHECK.same("limboSize(" + k + ") at the start", y.limboSize(k), 0);
        }
    }

    /** One entry in list 0, two in list 1, three in list 2. */
    private static EpochReclaim oneTwoThree() {
        EpochReclaim x = Runs.fullHeap(8, 2, 3, 0);
        for (int k = 0; k < 3; k++) {
            Runs.popsWhole(x, 0, k + 1);
            Runs.advances(x, k < 2 ? 1 : 0);
        }
        return x;
    }

    private static void sizeOfNoList() {
        EpochReclaim x = oneTwoThree();
        for (int k : Edges.outside(0, 2)) {
            CHECK.same("limboSize(" + k + ")", x.limboSize(k), -1);
        }
        for (int k = 0; k <= 2; k++) {
            CHECK.same("limboSize(" + k + ")", x.limboSize(k), k + 1);
        }
    }

    private static void entriesInOrder() {
        EpochReclaim x = oneTwoThree();
        CHECK.limbo(x, 0, 7);
        CHECK.limbo(x, 1, 6, 5);
        CHECK.limbo(x, 2, 4, 3, 2);
        EpochReclaim y = Runs.twoCellLoop();
        Runs.popsWhole(y, 0, 40);
        for (int i = 0; i < EpochReclaim.LIMBO_CAP; i++) {
            CHECK.same("limboCell(1, " + i + ")", y.limboCell(1, i), i % 2 == 0 ? 0 : 2);
        }
        CHECK.limbo(y, 0, 1);
        CHECK.limbo(y, 2);
    }

    private static void entryOfNoList() {
        EpochReclaim x = oneTwoThree();
        for (int k : Edges.outside(0, 2)) {
            for (int i = -1; i <= 33; i++) {
                CHECK.same("limboCell(" + k + ", " + i + ")", x.limboCell(k, i), -1);
            }
            for (int i : Edges.outside(0, 0)) {
                CHECK.same("limboCell(" + k + ", " + i + ")", x.limboCell(k, i), -1);
            }
        }
    }

    private static void entryOutsideTheList() {
        EpochReclaim x = oneTwoThree();
        for (int k = 0; k <= 2; k++) {
            for (int i : Edges.outside(0, k)) {
                CHECK.same("limboCell(" + k + ", " + i + ")", x.limboCell(k, i), -1);
            }
            for (int i = k + 1; i <= 100; i++) {
                CHECK.same("limboCell(" + k + ", " + i + ")", x.limboCell(k, i), -1);
            }
            CHECK.same("limboCell of the last entry is not -1", x.limboCell(k, k) != -1, true);
        }
        EpochReclaim empty = new EpochReclaim(8, 2, 3);
        for (int k = 0; k <= 2; k++) {
            for (int i : Edges.outside(0, -1)) {
                CHECK.same("limboCell(" + k + ", " + i + ") of an empty list", empty.limboCell(k, i), -1);
            }
        }
        EpochReclaim full = Runs.fullHeap(32, 2, 3, 0);
        Runs.popsWhole(full, 0, 32);
        CHECK.same("limboCell(0, 31) of a full list", full.limboCell(0, 31), 0);
        for (int i : Edges.outside(0, 31)) {
            CHECK.same("limboCell(0, " + i + ") of a full list", full.limboCell(0, i), -1);
        }
    }

    private static void entryOfAFreedList() {
        EpochReclaim x = oneTwoThree();
        x.tryAdvance();
        CHECK.same("limboCell(0, 0)", x.limboCell(0, 0), -1);
        CHECK.limbo(x, 1, 6, 5);
        Runs.advances(x, 2);
        for (int k = 0; k <= 2; k++) {
            for (int i = 0; i < 3; i++) {
                CHECK.same("limboCell(" + k + ", " + i + ")", x.limboCell(k, i), -1);
            }
        }
        CHECK.same("E", x.counter(EpochReclaim.C_EPOCH), 5);
        Runs.popWhole(x, 0);
        CHECK.limbo(x, 2, 1);
        CHECK.same("limboCell(2, 1)", x.limboCell(2, 1), -1);
    }

    private static void neitherChangesAnything() {
        for (Situations.Situation situation : Situations.all()) {
            EpochReclaim x = situation.make();
            CHECK.changesNothing(x, "limboSize and limboCell, " + situation.name, () -> {
                for (int k = -1; k <= 3; k++) {
                    CHECK.same("limboSize called twice", x.limboSize(k), x.limboSize(k));
                    for (int i = -1; i <= 33; i++) {
                        CHECK.same("limboCell called twice", x.limboCell(k, i), x.limboCell(k, i));
                    }
                }
            });
        }
    }
}
