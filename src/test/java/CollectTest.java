/** Promise 10, and TO COLLECT; what stands in quotes is the document's. */
public final class CollectTest {
    private static final Check check = new Check();

    public static void main(String[] args) {
        nothingThere();
        nothingToTake();
        everyRegisterLeads();
        classesLead();
        fieldsLead();
        longestChainLeads();
        cyclesAreTaken();
        cyclesThatAreLedToAreLeft();
        fullOnesAreTaken();
        allEntriesAreTaken();
        chunksComeInTheOrderOfEntries();
        chunksDoNotJoinAndObjectsStay();
        takenOnesReferNoLonger();
        countsAreToldAnew();
        countsOfSevenOrMoreAreFull();
        looseOnesDoNotCount();
        check.end();
    }

    private static void nothingThere() {
        CountedObjects x = new CountedObjects(40, 4);
        check.due("collect()", x.collect(), 0);
        check.dueState("collect()", x, Picture.of(new CountedObjects(40, 4)));
    }

    private static void nothingToTake() {
        CountedObjects x = Memory.row(40, 4, 2, 3);
        check.due("collect()", x.collect(), 0);
        check.dueState("collect()", x, Picture.of(Memory.row(40, 4, 2, 3)));
    }

    /** "objects to which no register leads (directly, ..." */
    private static void everyRegisterLeads() {
        CountedObjects x = Memory.row(40, 9, 3, 3, 3, 3, 3, 3, 3, 3);
        check.due("all are in registers", x.collect(), 0);
        for (int r = 0; r < 8; r++) {
            Memory.loosen(x, r);
            check.due("that of register " + r, x.collect(), 1);
            check.due("exists()", x.exists(2 * r + 2), false);
        }
    }

    /** "... or by classes and fields of others)" */
    private static void classesLead() {
        CountedObjects x = Memory.row(40, 4, 3, 3);
        x.store(4, 0, 4);
        x.instantiate(2, 4, 0);
        Memory.loosen(x, 0);
        Memory.clear(x, 1);
        check.due("2 is taken", x.collect(), 1);
        check.due("4 is the class of 6", x.exists(4), true);
        x.set(2, 0);
        check.due("now 4 is taken too", x.collect(), 1);
    }

    private static void fieldsLead() {
        CountedObjects x = Memory.row(60, 4, 3, 22);
        x.store(2, 0, 2);
        x.store(4, 19, 2);
        Memory.clear(x, 0);
        check.due("2 is in the last field of 4", x.collect(), 0);
        check.due("count(2)", x.count(2), 2);
        x.store(4, 19, 1);
        check.due("2 is taken", x.collect(), 1);
        check.due("exists(2)", x.exists(2), false);
    }

    private static void longestChainLeads() {
        CountedObjects x = new CountedObjects(400, 40);
        for (int i = 0; i < 20; i++) {
            int first = x.instantiate(0, x.register(0), 1);
            int second = x.instantiate(1, 3, 2);
            x.store(second, 1, first);
            x.set(0, second);
        }
        x.set(1, 0);
        check.due("all are led to", x.collect(), 0);
        check.due("objects()", x.objects(), 40);
        for (int o = 2; o <= 80; o += 2) {
            check.due("count(" + o + ")", x.count(o), 1);
        }
    }

    private static CountedObjects withCycle() {
        CountedObjects x = new CountedObjects(40, 6);
        x.instantiate(0, 0, 1);
        x.instantiate(1, 2, 1);
        x.store(2, 0, 4);
        x.set(0, 0);
        return x;
    }

    private static void cyclesAreTaken() {
        CountedObjects x = withCycle();
        x.set(1, 0);
        check.due("both are there yet", x.objects(), 2);
        check.due("collect()", x.collect(), 2);
        check.dueState("collect()", x, "0 0 0 0 0 0 0 0 ; chunks 3*0 2*3 1*34; free 40, objects 0");
    }

    private static void cyclesThatAreLedToAreLeft() {
        CountedObjects x = withCycle();
        check.due("collect()", x.collect(), 0);
        check.dueState("collect()", x, Picture.of(withCycle()));
    }

    private static void fullOnesAreTaken() {
        CountedObjects x = Memory.row(40, 6, 8);
        Memory.forget(x, 0);
        check.due("count(2)", x.count(2), 7);
        check.due("collect()", x.collect(), 1);
        check.due("exists(2)", x.exists(2), false);
    }

    private static void allEntriesAreTaken() {
        CountedObjects x = new CountedObjects(400, 40);
        for (int i = 0; i < 40; i++) {
            x.instantiate(0, 0, 8);
            Memory.loosen(x, 0);
        }
        check.due("free()", x.free(), 0);
        check.due("collect()", x.collect(), 40);
        check.due("objects()", x.objects(), 0);
        check.due("chunks(10)", x.chunks(10), 40);
        check.due("the youngest is that of the last entry", Memory.placed(x, 10), 390);
        check.due("the least free entry", x.register(7), 2);
    }

    /** "are taken away, in the order of their entries" */
    private static void chunksComeInTheOrderOfEntries() {
        CountedObjects x = Memory.row(20, 8, 4, 4, 4, 4, 4);
        x.become(2, 8);
        for (int r = 0; r < 4; r++) {
            Memory.loosen(x, r);
        }
        check.due("collect()", x.collect(), 4);
        int[] due = {0, 8, 4, 12};
        for (int address : due) {
            check.due("the youngest", Memory.placed(x, 4), address);
        }
    }

    /** "their words become free chunks" */
    private static void chunksDoNotJoinAndObjectsStay() {
        CountedObjects x = Memory.row(20, 8, 4, 4, 4, 4);
        Memory.loosen(x, 0);
        Memory.loosen(x, 1);
        check.due("collect()", x.collect(), 2);
        check.due("chunks(4)", x.chunks(4), 3);
        check.due("chunks(8)", x.chunks(8), 0);
        check.due("address(6)", x.address(6), 8);
        check.due("address(8)", x.address(8), 12);
    }

    private static void takenOnesReferNoLonger() {
        CountedObjects x = new CountedObjects(60, 6);
        x.instantiate(0, 0, 0);
        x.instantiate(1, 2, 3);
        x.store(4, 1, 2);
        x.store(4, 2, 2);
        Memory.loosen(x, 1);
        check.due("count(2) before", x.count(2), 4);
        check.due("collect()", x.collect(), 1);
        check.due("count(2) behind", x.count(2), 1);
        x.set(0, 0);
        check.due("exists(2)", x.exists(2), false);
    }

    /** "the number of its references in registers, and in classes and fields of those that are left" */
    private static void countsAreToldAnew() {
        CountedObjects x = new CountedObjects(60, 6);
        x.instantiate(0, 0, 8);
        x.instantiate(1, 2, 2);
        for (int k = 0; k < 8; k++) {
            x.store(2, k, 2);
        }
        check.due("count(2)", x.count(2), 7);
        for (int k = 1; k < 8; k++) {
            x.store(2, k, 0);
        }
        x.store(4, 0, 2);
        x.store(4, 1, 4);
        check.due("full stays", x.count(2), 7);
        check.due("collect()", x.collect(), 0);
        check.due("register, class, its own field and that of 4", x.count(2), 4);
        check.due("register and its own field", x.count(4), 2);
        check.due("store(4, 0, 0)", x.store(4, 0, 0), 2);
        check.due("it is counted again", x.count(2), 3);
    }

    /** "7 if there are 7 or more" */
    private static void countsOfSevenOrMoreAreFull() {
        for (int fields = 0; fields <= 20; fields++) {
            CountedObjects x = Memory.row(60, 6, 22, 2);
            for (int k = 0; k < 20; k++) {
                x.store(2, k, 4);
            }
            for (int k = fields; k < 20; k++) {
                x.store(2, k, 0);
            }
            check.due("count(4)", x.count(4), 7);
            check.due("collect()", x.collect(), 0);
            check.due("a register and " + fields + " fields", x.count(4), Math.min(7, fields + 1));
        }
        for (int registers = 1; registers <= 8; registers++) {
            CountedObjects x = Memory.row(60, 6, 8);
            Memory.forget(x, 0);
            for (int r = 0; r < registers; r++) {
                x.set(r, 2);
            }
            check.due("collect()", x.collect(), 0);
            check.due(registers + " registers", x.count(2), Math.min(7, registers));
        }
    }

    private static void looseOnesDoNotCount() {
        CountedObjects x = Memory.row(60, 6, 2, 10);
        for (int k = 1; k < 8; k++) {
            x.store(4, k, 2);
        }
        Memory.loosen(x, 1);
        check.due("count(2)", x.count(2), 7);
        check.due("collect()", x.collect(), 1);
        check.due("the register alone", x.count(2), 1);
    }
}
