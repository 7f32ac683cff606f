/** The boundary cases of "Headways" and of the promises 10 to 13, a test for each sentence. */
public final class HeadwayBoundariesTest {

    /** Directions and stops of which one is not there. */
    private static final int[][] NO_PLACES = {{-1, 0}, {2, 0}, {0, -1}, {1, 12}, {Integer.MIN_VALUE, 5},
        {Integer.MAX_VALUE, 5}, {0, Integer.MIN_VALUE}, {1, Integer.MAX_VALUE}, {2, 12}};

    public static void main(String[] args) {
        endsOfWays();
        orderOfPassages();
        differences();
        leastHeadwayIsNoBunch();
        tripOrMinute();
        noSuchPlaceOfPassage();
        noSuchPassage();
        numberOfBunches();
        noSuchPlaceOfBunches();
        greatestOrLeast();
        thirtyPassages();
        noSuchPlaceOfHeadway();
        tooFewForHeadway();
        means();
        noSuchPlaceOfMean();
        tooFewForMean();
        Check.finish();
    }

    private static String place(int[] place) {
        return " at " + place[0] + ", " + place[1];
    }

    private static void endsOfWays() {
        Check.sentence("The planned passages of a stop in a direction are those of all active trips in this direction "
                + "that depart from this stop, including their first stops, but not their last ones");
        TramLines x = new TramLines();
        x.setTurn(3, true);
        x.setTurn(5, true);
        x.addTrip(3, 5, 10);
        x.addTrip(5, 3, 40);
        int[] up = {-1, -1, -1, 10, 13, -1, -1, -1, -1, -1, -1, -1};
        int[] down = {-1, -1, -1, -1, 43, 40, -1, -1, -1, -1, -1, -1};
        for (int stop = 0; stop <= 11; stop++) {
            int asked = stop;
            if (up[stop] < 0) {
                Check.noElement("up at " + stop, () -> x.passage(0, asked, 0, false));
            } else {
                Check.due("up at " + stop, x.passage(0, stop, 0, false), up[stop]);
            }
            if (down[stop] < 0) {
                Check.noElement("down at " + stop, () -> x.passage(1, asked, 0, false));
            } else {
                Check.due("down at " + stop, x.passage(1, stop, 0, false), down[stop]);
            }
        }
        x.addTrip(0, 11, 90);
        x.addTrip(11, 0, 90);
        Check.noElement("up at the end of the line", () -> x.passage(0, 11, 0, false));
        Check.noElement("down at the begin of the line", () -> x.passage(1, 0, 0, false));
        Check.due("up at the begin of the line", x.passage(0, 0, 0, false), 90);
        Check.due("down at the end of the line", x.passage(1, 11, 0, false), 90);
        x.cancel(2, true);
        Check.noElement("a cancelled one", () -> x.passage(0, 0, 0, false));
        x.cancel(2, false);
        Check.due("an active one again", x.passage(0, 0, 0, true), 2);
    }

    private static void orderOfPassages() {
        Check.sentence("in ascending order of time, and of the numbers of the trips among equal times");
        TramLines x = new TramLines();
        x.setTurn(4, true);
        int[] minutes = {1439, 50, 50, 0, 50, 49};
        for (int minute : minutes) {
            x.addTrip(0, 11, minute);
        }
        x.addTrip(4, 11, 62);
        x.addTrip(4, 11, 61);
        int[] atFirst = {3, 5, 1, 2, 4, 0};
        for (int index = 0; index < 6; index++) {
            Check.due("trip " + index + " at 0", x.passage(0, 0, index, true), atFirst[index]);
        }
        int[] atFour = {3, 5, 7, 1, 2, 4, 6, 0};
        int[] timesAtFour = {12, 61, 61, 62, 62, 62, 62, 1451};
        for (int index = 0; index < 8; index++) {
            Check.due("trip " + index + " at 4", x.passage(0, 4, index, true), atFour[index]);
            Check.due("minute " + index + " at 4", x.passage(0, 4, index, false), timesAtFour[index]);
        }
        TramLines y = new TramLines();
        for (int trip = 0; trip < 30; trip++) {
            y.addTrip(11, 0, 700);
        }
        for (int index = 0; index < 30; index++) {
            Check.due("of thirty at the same minute", y.passage(1, 6, index, true), index);
        }
        Check.noElement("no thirty-first one", () -> y.passage(1, 6, 30, true));
    }

    private static void differences() {
        Check.sentence("A headway is the difference of the times of a passage and the one before.");
        TramLines x = new TramLines();
        x.addTrip(0, 11, 1439);
        x.addTrip(0, 11, 0);
        Check.due("of the whole day", x.headway(0, 0, true), 1439);
        Check.due("also the least", x.headway(0, 10, false), 1439);
        x.addTrip(0, 11, 1439);
        Check.due("of the same minute", x.headway(0, 0, false), 0);
    }

    private static void leastHeadwayIsNoBunch() {
        Check.sentence("A bunch is a headway that is less than the least headway.");
        TramLines x = new TramLines();
        x.addTrip(0, 11, 100);
        x.addTrip(0, 11, 104);
        Check.due("just the least headway", x.bunches(0, 0), 0);
        x.set(1, 5);
        Check.due("a minute less", x.bunches(0, 0), 1);
        x.set(1, 30);
        x.addTrip(0, 11, 134);
        Check.due("just the greatest least headway", x.bunches(0, 0), 1);
        x.addTrip(0, 11, 163);
        Check.due("a minute less than that", x.bunches(0, 0), 2);
        x.set(1, 1);
        x.addTrip(0, 11, 164);
        Check.due("a minute", x.bunches(0, 0), 0);
        x.addTrip(0, 11, 164);
        Check.due("no minute", x.bunches(0, 0), 1);
    }

    private static TramLines threeTrips() {
        TramLines x = new TramLines();
        x.addTrip(0, 11, 30);
        x.addTrip(0, 11, 10);
        x.addTrip(11, 0, 20);
        return x;
    }

    private static void tripOrMinute() {
        Check.sentence("passage returns the number of the trip, or the minute.");
        TramLines x = threeTrips();
        Check.due("trip 0", x.passage(0, 5, 0, true), 1);
        Check.due("minute 0", x.passage(0, 5, 0, false), 25);
        Check.due("trip 1", x.passage(0, 5, 1, true), 0);
        Check.due("minute 1", x.passage(0, 5, 1, false), 45);
    }

    private static void noSuchPlaceOfPassage() {
        Check.sentence("passage throws IndexOutOfBoundsException if there is no such direction or stop");
        TramLines x = threeTrips();
        for (int[] place : NO_PLACES) {
            Check.noSuchIndex("the trip" + place(place), () -> x.passage(place[0], place[1], 0, true));
            Check.noSuchIndex("before the index" + place(place), () -> x.passage(place[0], place[1], 9, false));
            Check.noSuchIndex("without trips" + place(place),
                    () -> new TramLines().passage(place[0], place[1], 0, true));
        }
    }

    private static void noSuchPassage() {
        Check.sentence("passage throws NoSuchElementException if there is no such passage");
        TramLines x = threeTrips();
        for (int index : Check.outside(0, 1)) {
            Check.noElement("the trip of " + index, () -> x.passage(0, 0, index, true));
            Check.noElement("the minute of " + index, () -> x.passage(0, 0, index, false));
        }
        for (int index : Check.outside(0, 0)) {
            Check.noElement("the other direction " + index, () -> x.passage(1, 11, index, true));
        }
        Check.noElement("without trips", () -> new TramLines().passage(0, 0, 0, true));
    }

    private static void numberOfBunches() {
        Check.sentence("bunches returns the number of bunches at a stop in a direction.");
        TramLines x = new TramLines();
        Check.due("of no passage", x.bunches(0, 0), 0);
        x.addTrip(0, 11, 0);
        Check.due("of one passage", x.bunches(0, 0), 0);
        for (int trip = 1; trip < 30; trip++) {
            x.addTrip(0, 11, 3 * trip);
        }
        Check.due("of thirty", x.bunches(0, 10), 29);
        Check.due("at their last stop", x.bunches(0, 11), 0);
        Check.due("in the other direction", x.bunches(1, 10), 0);
    }

    private static void noSuchPlaceOfBunches() {
        Check.sentence("bunches throws IndexOutOfBoundsException if there is no such direction or stop");
        TramLines x = threeTrips();
        for (int[] place : NO_PLACES) {
            Check.noSuchIndex("bunches" + place(place), () -> x.bunches(place[0], place[1]));
        }
    }

    private static void greatestOrLeast() {
        Check.sentence("whether the greatest one is asked for, and not the least one");
        TramLines x = threeTrips();
        Check.due("the least of one", x.headway(0, 0, false), 20);
        Check.due("the greatest of one", x.headway(0, 0, true), 20);
        x.addTrip(0, 11, 31);
        x.addTrip(0, 11, 51);
        x.addTrip(0, 11, 52);
        Check.due("the least of four", x.headway(0, 0, false), 1);
        Check.due("the greatest of four", x.headway(0, 0, true), 20);
        x.addTrip(0, 11, 73);
        Check.due("the greatest, the last one", x.headway(0, 0, true), 21);
        x.addTrip(0, 11, 73);
        Check.due("the least, the last one", x.headway(0, 0, false), 0);
        TramLines y = new TramLines();
        int[] minutes = {10, 11, 31, 51};
        for (int minute : minutes) {
            y.addTrip(0, 11, minute);
        }
        Check.due("the least, the first one", y.headway(0, 0, false), 1);
        y.cancel(0, true);
        y.addTrip(0, 11, 1439);
        y.cancel(4, true);
        y.addTrip(0, 11, 0);
        y.cancel(1, true);
        Check.due("the greatest, the first one", y.headway(0, 0, true), 31);
        Check.due("the least then", y.headway(0, 0, false), 20);
    }

    private static void thirtyPassages() {
        Check.sentence("At most 30 trips are kept (thirty passages)");
        TramLines x = new TramLines();
        for (int trip = 0; trip < 30; trip++) {
            x.addTrip(0, 11, trip == 29 ? 200 : 5 * trip);
        }
        Check.due("the last trip", x.passage(0, 0, 29, true), 29);
        Check.due("the least", x.headway(0, 0, false), 5);
        Check.due("the greatest", x.headway(0, 0, true), 60);
        Check.dueDouble("the mean", x.meanHeadway(0, 0), 200.0 / 29.0);
        Check.due("bunches", x.bunches(0, 0), 0);
        x.set(1, 6);
        Check.due("bunches below 6", x.bunches(0, 0), 28);
        for (int trip = 2; trip < 30; trip++) {
            x.cancel(trip, true);
        }
        Check.due("the greatest of two then", x.headway(0, 0, true), 5);
        Check.due("bunches of two then", x.bunches(0, 0), 1);
    }

    private static void noSuchPlaceOfHeadway() {
        Check.sentence("headway throws IndexOutOfBoundsException if there is no such direction or stop");
        TramLines x = threeTrips();
        for (int[] place : NO_PLACES) {
            Check.noSuchIndex("the greatest" + place(place), () -> x.headway(place[0], place[1], true));
            Check.noSuchIndex("the least" + place(place), () -> x.headway(place[0], place[1], false));
        }
    }

    private static void tooFewForHeadway() {
        Check.sentence("headway throws NoSuchElementException if there are fewer than two passages");
        TramLines x = threeTrips();
        Check.noElement("one: the least", () -> x.headway(1, 11, false));
        Check.noElement("one: the greatest", () -> x.headway(1, 11, true));
        Check.noElement("none: the least", () -> x.headway(1, 0, false));
        Check.noElement("none: the greatest", () -> x.headway(0, 11, true));
        x.addTrip(11, 0, 20);
        Check.due("two: the least", x.headway(1, 11, false), 0);
        Check.due("two: the greatest", x.headway(1, 11, true), 0);
        x.cancel(2, true);
        Check.noElement("one of both is cancelled", () -> x.headway(1, 11, true));
    }

    private static void means() {
        Check.sentence("meanHeadway returns their sum divided by their number, both as doubles.");
        TramLines x = threeTrips();
        Check.dueDouble("of one", x.meanHeadway(0, 0), 20.0);
        x.addTrip(0, 11, 31);
        Check.dueDouble("of two, with a half", x.meanHeadway(0, 0), 10.5);
        x.addTrip(0, 11, 33);
        Check.dueDouble("of three, with two thirds", x.meanHeadway(0, 10), 23.0 / 3.0);
        TramLines y = new TramLines();
        for (int trip = 0; trip < 30; trip++) {
            y.addTrip(11, 0, trip == 29 ? 1439 : 0);
        }
        Check.dueDouble("of 29", y.meanHeadway(1, 1), 1439.0 / 29.0);
        y.cancel(29, true);
        Check.dueDouble("of 28 of no minute", y.meanHeadway(1, 1), 0.0);
    }

    private static void noSuchPlaceOfMean() {
        Check.sentence("meanHeadway throws IndexOutOfBoundsException if there is no such direction or stop");
        TramLines x = threeTrips();
        for (int[] place : NO_PLACES) {
            Check.noSuchIndex("the mean" + place(place), () -> x.meanHeadway(place[0], place[1]));
        }
    }

    private static void tooFewForMean() {
        Check.sentence("meanHeadway throws ArithmeticException if there are fewer than two passages");
        TramLines x = threeTrips();
        Check.noNumber("one", () -> x.meanHeadway(1, 11));
        Check.noNumber("none at the last stop", () -> x.meanHeadway(0, 11));
        Check.noNumber("without trips", () -> new TramLines().meanHeadway(0, 0));
        x.addTrip(11, 0, 20);
        Check.dueDouble("two", x.meanHeadway(1, 11), 0.0);
        x.cancel(3, true);
        Check.noNumber("one of both is cancelled", () -> x.meanHeadway(1, 11));
    }
}
