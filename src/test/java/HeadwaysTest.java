/** Promises 10 to 13: planned passages, bunches and headways. */
public final class HeadwaysTest {

    public static void main(String[] args) {
        passages();
        wrongPassages();
        bunchesAndHeadways();
        tooFewPassages();
        Check.finish();
    }

    /** Up: 0-11 at 10 and 30, 5-11 at 25, which is also when the first one is at 5, 0-5 at 10; down: 11-5 at 0. */
    private static TramLines line() {
        TramLines x = new TramLines();
        x.setTurn(5, true);
        x.addTrip(5, 11, 25);
        x.addTrip(0, 11, 30);
        x.addTrip(0, 11, 10);
        x.addTrip(0, 5, 10);
        x.addTrip(11, 5, 0);
        return x;
    }

    private static void duePassages(String what, TramLines x, int direction, int stop, int... tripsAndMinutes) {
        int number = tripsAndMinutes.length / 2;
        for (int index = 0; index < number; index++) {
            Check.due(what + " trip " + index, x.passage(direction, stop, index, true), tripsAndMinutes[2 * index]);
            Check.due(what + " minute " + index, x.passage(direction, stop, index, false),
                    tripsAndMinutes[2 * index + 1]);
        }
        Check.noElement(what + " end", () -> x.passage(direction, stop, number, true));
        Check.noElement(what + " -1", () -> x.passage(direction, stop, -1, false));
    }

    private static void passages() {
        TramLines x = line();
        duePassages("up at 0", x, 0, 0, 2, 10, 3, 10, 1, 30);
        duePassages("up at 4", x, 0, 4, 2, 22, 3, 22, 1, 42);
        duePassages("up at 5: not the last stop of 3", x, 0, 5, 0, 25, 2, 25, 1, 45);
        duePassages("up at 10", x, 0, 10, 0, 40, 2, 40, 1, 60);
        duePassages("up at 11", x, 0, 11);
        duePassages("down at 11", x, 1, 11, 4, 0);
        duePassages("down at 6", x, 1, 6, 4, 15);
        duePassages("down at 5", x, 1, 5);
        duePassages("down at 0", x, 1, 0);
        x.cancel(2, true);
        duePassages("without a cancelled one", x, 0, 5, 0, 25, 1, 45);
        x.cancel(2, false);
        x.setSection(4, 9, 0);
        duePassages("with a longer section", x, 0, 5, 0, 25, 2, 31, 1, 51);
    }

    private static void wrongPassages() {
        TramLines x = line();
        Check.noSuchIndex("direction -1", () -> x.passage(-1, 0, 0, true));
        Check.noSuchIndex("direction 2", () -> x.passage(2, 0, 0, true));
        Check.noSuchIndex("stop -1", () -> x.passage(0, -1, 0, true));
        Check.noSuchIndex("stop 12", () -> x.passage(0, 12, 0, true));
        Check.noSuchIndex("stop before index", () -> x.passage(0, 12, -3, true));
        Check.noElement("greatest index", () -> x.passage(0, 0, Integer.MAX_VALUE, true));
        Check.noElement("least index", () -> x.passage(0, 0, Integer.MIN_VALUE, true));
    }

    private static void bunchesAndHeadways() {
        TramLines x = line();
        Check.due("bunches at 0", x.bunches(0, 0), 1);
        Check.due("least at 0", x.headway(0, 0, false), 0);
        Check.due("greatest at 0", x.headway(0, 0, true), 20);
        Check.dueDouble("mean at 0", x.meanHeadway(0, 0), 10.0);
        x.addTrip(0, 11, 34);
        Check.due("4 minutes are no bunch", x.bunches(0, 0), 1);
        Check.dueDouble("mean of three", x.meanHeadway(0, 0), 8.0);
        x.set(1, 5);
        Check.due("but less than 5", x.bunches(0, 0), 2);
        x.addTrip(0, 11, 134);
        Check.due("least of four", x.headway(0, 0, false), 0);
        Check.due("greatest of four", x.headway(0, 0, true), 100);
        Check.dueDouble("mean of four", x.meanHeadway(0, 0), 31.0);
        x.cancel(3, true);
        Check.due("least of three", x.headway(0, 0, false), 4);
        Check.dueDouble("mean of three again", x.meanHeadway(0, 0), 124.0 / 3.0);
        x.addTrip(11, 0, 3);
        Check.due("bunches down", x.bunches(1, 11), 1);
        Check.due("bunches behind the last stop", x.bunches(1, 5), 0);
        x.set(1, 3);
        Check.due("3 minutes are no bunch then", x.bunches(1, 11), 0);
        Check.due("least of one", x.headway(1, 11, false), 3);
        Check.due("greatest of one", x.headway(1, 11, true), 3);
        TramLines y = line();
        y.addTrip(11, 0, 3);
        Check.dueDouble("mean of one", y.meanHeadway(1, 11), 3.0);
        y.addTrip(11, 0, 0);
        y.cancel(5, true);
        Check.due("greatest of one of 0", y.headway(1, 11, true), 0);
    }

    private static void tooFewPassages() {
        TramLines x = line();
        Check.noElement("one passage", () -> x.headway(1, 11, true));
        Check.noElement("no passage", () -> x.headway(1, 0, false));
        Check.noNumber("mean of one passage", () -> x.meanHeadway(1, 11));
        Check.noNumber("mean of no passage", () -> x.meanHeadway(0, 11));
        Check.due("bunches of one passage", x.bunches(1, 11), 0);
        Check.due("bunches of none", x.bunches(0, 11), 0);
        int[][] wrong = {{-1, 0}, {2, 0}, {0, -1}, {1, 12}};
        for (int[] place : wrong) {
            String at = " at " + place[0] + ", " + place[1];
            Check.noSuchIndex("bunches" + at, () -> x.bunches(place[0], place[1]));
            Check.noSuchIndex("headway" + at, () -> x.headway(place[0], place[1], true));
            Check.noSuchIndex("meanHeadway" + at, () -> x.meanHeadway(place[0], place[1]));
        }
    }
}
