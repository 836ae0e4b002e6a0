// The boundary cases of promises 1 to 5: a new object, put, drop, clear and rows.
public final class TablesBoundaryTest {
    public static void main(String[] args) {
        Checks.sentence("1: all tables are empty", TablesBoundaryTest::newObjectIsEmpty);
        Checks.sentence("1: all tables are empty, whatever another object holds", TablesBoundaryTest::objectsAreApart);

        WrongRows.eachWay("2: i not 0 to 3, or a or b not 0 to 7, answers BAD_ARG, before all else", WrongRows.PUT);
        Checks.sentence("2: it is there answers NONE", TablesBoundaryTest::putOfARowThatIsThere);
        Checks.sentence("2: FULL", TablesBoundaryTest::putIntoAFullTable);
        Checks.sentence("2: FULL only from the eleventh row on", TablesBoundaryTest::tenRowsAreTaken);
        Checks.sentence("2: FULL no longer once there is room", TablesBoundaryTest::roomAgain);
        Checks.sentence("2: tested in this order, BAD_ARG before FULL", TablesBoundaryTest::badArgBeforeFull);
        Checks.sentence("2: tested in this order, NONE before FULL", TablesBoundaryTest::noneBeforeFull);
        Checks.sentence("2: otherwise the number of rows of the table", TablesBoundaryTest::putTellsTheNumber);

        WrongRows.eachWay("3: BAD_ARG as for put", WrongRows.DROP);
        Checks.sentence("3: NONE if it is not there, table empty", TablesBoundaryTest::dropFromAnEmptyTable);
        Checks.sentence("3: NONE if it is not there, other rows are", TablesBoundaryTest::dropOfARowNotThere);
        Checks.sentence("3: NONE if it is not there any more", TablesBoundaryTest::dropTwice);
        Checks.sentence("3: otherwise the number of rows, from full to empty", TablesBoundaryTest::dropTellsTheNumber);

        Checks.sentence("4: BAD_ARG if i is too small", () -> clearOfNoTable(Samples.tooSmall()));
        Checks.sentence("4: BAD_ARG if i is too large", () -> clearOfNoTable(Samples.tooLarge(4)));
        Checks.sentence("4: how many there were, none", TablesBoundaryTest::clearOfAnEmptyTable);
        Checks.sentence("4: how many there were, one", TablesBoundaryTest::clearOfOneRow);
        Checks.sentence("4: how many there were, ten", TablesBoundaryTest::clearOfAFullTable);
        Checks.sentence("4: takes all rows out, so ten fit again", TablesBoundaryTest::fillAfterClear);

        Checks.sentence("5: BAD_ARG if i is too small", () -> rowsOfNoTable(Samples.tooSmall()));
        Checks.sentence("5: BAD_ARG if i is too large", () -> rowsOfNoTable(Samples.tooLarge(4)));
        Checks.sentence("5: the number of rows, from none to ten", TablesBoundaryTest::rowsFromNoneToTen);
        Checks.end();
    }

    // Row n of ten different ones.
    private static Run.Answer putNth(Run x, int i, int n) {
        return x.put(i, 7 - n % 8, n / 8);
    }

    private static Run filled(int i) {
        Run x = new Run();
        for (int n = 0; n < 10; n++) {
            putNth(x, i, n);
        }
        return x;
    }

    private static void newObjectIsEmpty() {
        Run x = new Run();
        for (int i = 0; i < 4; i++) {
            x.rows(i).is(0);
            x.clear(i).is(0);
            x.useful(i).is(0);
        }
        x.count().is(0);
        x.answer(0).is(Checks.NONE);
        x.ends().is(0);
        x.sum().is(0);
        x.compareAll();
    }

    private static void objectsAreApart() {
        Run full = Samples.large();
        Run fresh = new Run();
        fresh.rows(0).is(0);
        fresh.put(0, 0, 0).is(1);
        fresh.clear(1).is(0);
        full.compareAll();
        fresh.compareAll();
    }

    private static void putOfARowThatIsThere() {
        Samples.forEachRow((i, a, b) -> {
            Run alone = new Run().fill(i, a, b);
            Samples.refusedIn(alone, x -> x.put(i, a, b), Checks.NONE);
            Run six = Samples.six();
            if (six.model().rows[i][a][b]) {
                Samples.refusedIn(six, x -> x.put(i, a, b), Checks.NONE);
            }
        });
    }

    private static void putIntoAFullTable() {
        Samples.forEachRow((i, a, b) -> {
            Run large = Samples.large();
            if (!large.model().rows[i][a][b]) {
                Samples.refusedIn(large, x -> x.put(i, a, b), Checks.FULL);
            }
        });
    }

    private static void tenRowsAreTaken() {
        for (int i = 0; i < 4; i++) {
            Run x = filled(i);
            x.rows(i).is(10);
            x.put(i, 0, 7).is(Checks.FULL);
            x.put(i, 0, 7).is(Checks.FULL);
            // Full is the one table, not the object.
            x.put((i + 1) % 4, 0, 7).is(1);
            x.put((i + 3) % 4, 0, 7).is(1);
            x.compareAll();
        }
    }

    private static void roomAgain() {
        for (int i = 0; i < 4; i++) {
            Run x = filled(i);
            x.put(i, 0, 7).is(Checks.FULL);
            x.drop(i, 7, 0).is(9);
            x.put(i, 0, 7).is(10);
            x.put(i, 7, 0).is(Checks.FULL);
            x.compareAll();
        }
    }

    private static void badArgBeforeFull() {
        for (int i = 0; i < 4; i++) {
            Run x = filled(i);
            x.put(i, -1, 7).is(Checks.BAD_ARG);
            x.put(i, 8, 7).is(Checks.BAD_ARG);
            x.put(i, 0, -1).is(Checks.BAD_ARG);
            x.put(i, 0, 8).is(Checks.BAD_ARG);
            x.compareAll();
        }
    }

    private static void noneBeforeFull() {
        for (int i = 0; i < 4; i++) {
            Run x = filled(i);
            for (int n = 0; n < 10; n++) {
                putNth(x, i, n).is(Checks.NONE);
            }
            x.compareAll();
        }
    }

    private static void putTellsTheNumber() {
        for (int i = 0; i < 4; i++) {
            Run x = new Run();
            for (int n = 0; n < 10; n++) {
                putNth(x, i, n).is(n + 1);
            }
            x.compareAll();
        }
    }

    private static void dropFromAnEmptyTable() {
        for (int i = 0; i < 4; i++) {
            Run x = Samples.large();
            x.clear(i).is(10);
            for (int row = 0; row < 64; row++) {
                x.drop(i, row / 8, row % 8).is(Checks.NONE);
            }
            x.compareAll();
        }
    }

    private static void dropOfARowNotThere() {
        Samples.forEachRow((i, a, b) -> {
            Run six = Samples.six();
            if (!six.model().rows[i][a][b]) {
                Samples.refusedIn(six, x -> x.drop(i, a, b), Checks.NONE);
            }
        });
    }

    private static void dropTwice() {
        for (int i = 0; i < 4; i++) {
            Run x = filled(i);
            x.drop(i, 7, 0).is(9);
            x.drop(i, 7, 0).is(Checks.NONE);
            x.put(i, 7, 0).is(10);
            x.drop(i, 7, 0).is(9);
            x.compareAll();
        }
    }

    private static void dropTellsTheNumber() {
        for (int i = 0; i < 4; i++) {
            Run x = filled(i);
            for (int n = 0; n < 10; n++) {
                x.drop(i, 7 - n % 8, n / 8).is(9 - n);
            }
            x.compareAll();
        }
    }

    private static void clearOfNoTable(int[] wrong) {
        for (int i : wrong) {
            Samples.refused(x -> x.clear(i), Checks.BAD_ARG);
        }
    }

    private static void clearOfAnEmptyTable() {
        for (int i = 0; i < 4; i++) {
            Run x = Samples.large();
            x.clear(i);
            x.clear(i).is(0);
            new Run().clear(i).is(0);
            x.compareAll();
        }
    }

    private static void clearOfOneRow() {
        for (int i = 0; i < 4; i++) {
            Run first = new Run().fill(i, 0, 0);
            first.clear(i).is(1);
            first.compareAll();
            Run last = new Run().fill(i, 7, 7);
            last.clear(i).is(1);
            last.compareAll();
        }
    }

    private static void clearOfAFullTable() {
        for (int i = 0; i < 4; i++) {
            Run x = Samples.large();
            x.clear(i).is(10);
            for (int other = 0; other < 4; other++) {
                x.rows(other).is(other == i ? 0 : 10);
            }
            x.compareAll();
        }
    }

    private static void fillAfterClear() {
        for (int i = 0; i < 4; i++) {
            Run x = filled(i);
            x.clear(i).is(10);
            for (int n = 0; n < 10; n++) {
                putNth(x, i, n).is(n + 1);
            }
            x.put(i, 0, 7).is(Checks.FULL);
            x.compareAll();
        }
    }

    private static void rowsOfNoTable(int[] wrong) {
        for (int i : wrong) {
            Samples.refused(x -> x.rows(i), Checks.BAD_ARG);
        }
    }

    private static void rowsFromNoneToTen() {
        for (int i = 0; i < 4; i++) {
            Run x = new Run();
            for (int n = 0; n < 10; n++) {
                x.rows(i).is(n);
                putNth(x, i, n);
            }
            x.rows(i).is(10);
            x.put(i, 0, 7).is(Checks.FULL);
            x.rows(i).is(10);
        }
    }
}
