/** Promises 24 to 30: blocks and the run of a day. */
public final class RunTest {

    public static void main(String[] args) {
        addedBlocks();
        removedBlocks();
        plainRun();
        timesThatAreNot();
        lateTrams();
        gaps();
        gapOfTheSameTram();
        gapsAreByStopAndDirection();
        lowestTripFirst();
        edgesOfBlocks();
        detours();
        gapBeforeBlock();
        gapBehindBlock();
        blocksBehindBlocks();
        stuckTrips();
        departureAtTheLastMinute();
        waitsOfStuckTrips();
        actualBunches();
        meanDelays();
        Check.finish();
    }

    private static void dueRun(String what, TramLines x, int... numbers) {
        for (int number = 0; number <= 6; number++) {
            Check.due(what + " run " + number, x.run(number), numbers[number]);
        }
    }

    private static void addedBlocks() {
        TramLines x = new TramLines();
        Check.noSuchIndex("section -1", () -> x.block(-1, 0, 0));
        Check.noSuchIndex("section 11", () -> x.block(11, 0, 0));
        Check.noSuchIndex("section before minute", () -> x.block(11, 5, 4));
        Check.badArgument("first -1", () -> x.block(0, -1, 5));
        Check.badArgument("first 2001", () -> x.block(0, 2001, 2001));
        Check.badArgument("last before first", () -> x.block(0, 5, 4));
        Check.badArgument("last 2001", () -> x.block(0, 0, 2001));
        for (int number = 0; number < 6; number++) {
            Check.due("block " + number, x.block(number * 2, number * 400, 2000), number);
        }
        Check.badState("a seventh one", () -> x.block(0, 0, 0));
        Check.badArgument("argument before state", () -> x.block(0, 1, 0));
        Check.due("six", x.count(5), 6);
    }

    private static void removedBlocks() {
        TramLines x = new TramLines();
        Check.noSuchIndex("unblock(0)", () -> x.unblock(0));
        x.addTrip(0, 11, 0);
        x.addVehicle(0);
        x.give(0, 0);
        x.block(0, 0, 10);
        x.block(1, 0, 20);
        x.block(2, 0, 30);
        Check.noSuchIndex("unblock(-1)", () -> x.unblock(-1));
        Check.noSuchIndex("unblock(3)", () -> x.unblock(3));
        Check.due("out of the third", x.actual(0, 2, true), 31);
        Check.due("unblock(1)", x.unblock(1), 2);
        Check.due("by the second, not blocked", x.actual(0, 1, true), 14);
        Check.due("the third one is still there", x.actual(0, 2, true), 31);
        Check.due("unblock(1) again", x.unblock(1), 1);
        Check.due("the first one is still there", x.actual(0, 0, true), 11);
        Check.due("not the third one", x.actual(0, 2, true), 17);
        Check.due("unblock(0)", x.unblock(0), 0);
        Check.due("in time", x.delay(0), 0);
        x.block(5, 0, 15);
        x.block(6, 16, 18);
        x.block(7, 20, 25);
        Check.due("unblock(0) of three", x.unblock(0), 2);
        Check.due("the second one keeps its minutes", x.actual(0, 6, true), 19);
        Check.due("the third one keeps its minutes", x.actual(0, 7, true), 26);
        x.unblock(0);
        Check.due("before the third one", x.actual(0, 6, true), 18);
        Check.due("the third one is left", x.actual(0, 7, true), 26);
    }

    private static void plainRun() {
        TramLines x = new TramLines();
        x.setTurn(4, true);
        x.setSection(2, 7, 0);
        x.addTrip(0, 4, 10);
        x.addTrip(4, 0, 40);
        x.addTrip(0, 11, 20);
        x.addVehicle(0);
        x.giveRound(0, 1, 0);
        int[] up = {10, 13, 16, 23, 26};
        int[] down = {56, 53, 50, 43, 40};
        for (int stop = 0; stop <= 4; stop++) {
            if (stop < 4) {
                Check.due("up from " + stop, x.actual(0, stop, true), up[stop]);
                Check.due("down to " + stop, x.actual(1, stop, false), down[stop]);
            }
            if (stop > 0) {
                Check.due("up to " + stop, x.actual(0, stop, false), up[stop]);
                Check.due("down from " + stop, x.actual(1, stop, true), down[stop]);
            }
        }
        Check.due("delay", x.delay(0), 0);
        dueRun("plain", x, 2, 0, 0, 0, 0, 0, 0);
        Check.badArgument("run(-1)", () -> x.run(-1));
        Check.badArgument("run(7)", () -> x.run(7));
    }

    private static void timesThatAreNot() {
        TramLines x = new TramLines();
        x.setTurn(4, true);
        x.addTrip(0, 4, 10);
        x.addTrip(4, 11, 40);
        x.addVehicle(0);
        x.give(0, 0);
        Check.noSuchIndex("trip -1", () -> x.actual(-1, 0, true));
        Check.noSuchIndex("trip 2", () -> x.actual(2, 0, true));
        Check.noSuchIndex("trip before stop", () -> x.actual(2, 77, true));
        Check.noElement("stop -1", () -> x.actual(0, -1, true));
        Check.noElement("stop 12", () -> x.actual(0, 12, true));
        Check.noElement("stop 5", () -> x.actual(0, 5, false));
        Check.noElement("departure from the last one", () -> x.actual(0, 4, true));
        Check.noElement("arrival at the first one", () -> x.actual(0, 0, false));
        Check.noElement("in no duty", () -> x.actual(1, 5, true));
        Check.noSuchIndex("delay(-1)", () -> x.delay(-1));
        Check.noSuchIndex("delay(2)", () -> x.delay(2));
        Check.noElement("delay in no duty", () -> x.delay(1));
        x.take(0);
        Check.noElement("no longer in a duty", () -> x.actual(0, 0, true));
    }

    /** A wait of 12 minutes is more than the 9 minutes between the trips beyond the turn time. */
    private static void lateTrams() {
        TramLines x = new TramLines();
        x.set(0, 4);
        x.addTrip(0, 11, 0);
        x.addTrip(11, 0, 46);
        x.addTrip(0, 11, 100);
        x.addVehicle(0);
        x.giveRound(0, 1, 0);
        x.give(2, 0);
        x.block(10, 30, 41);
        Check.due("waits", x.delay(0), 12);
        Check.due("begins the next one late", x.actual(1, 11, true), 49);
        Check.due("delay of the next one", x.delay(1), 3);
        Check.due("and the third one in time", x.actual(2, 0, true), 100);
        dueRun("late", x, 3, 0, 15, 12, 0, 0, 12);
        x.unblock(0);
        x.block(10, 30, 30);
        Check.due("one minute is no matter for the next one", x.actual(1, 11, true), 46);
    }

    /** Trips from 0 at the given minutes, each with a vehicle of its own. */
    private static TramLines trams(int... minutes) {
        TramLines x = new TramLines();
        for (int number = 0; number < minutes.length; number++) {
            x.addTrip(0, 11, minutes[number]);
            x.addVehicle(0);
            x.give(number, number);
        }
        return x;
    }

    private static void gaps() {
        TramLines x = trams(10, 10, 10);
        x.set(2, 4);
        Check.due("first", x.actual(0, 0, true), 10);
        Check.due("second", x.actual(1, 0, true), 14);
        Check.due("third", x.actual(2, 0, true), 18);
        dueRun("of three", x, 3, 0, 12, 8, 0, 12, 0);
        x.set(2, 1);
        dueRun("a departure in the same minute counts", x, 3, 0, 3, 2, 0, 3, 0);
        x.set(2, 0);
        dueRun("without a gap", x, 3, 0, 0, 0, 0, 0, 0);
        TramLines y = trams(10, 14, 21);
        y.set(2, 5);
        dueRun("of 4 minutes and 7", y, 3, 0, 1, 1, 0, 1, 0);
        y.set(2, 4);
        dueRun("just 4 minutes", y, 3, 0, 0, 0, 0, 0, 0);
        y.set(2, 10);
        Check.due("waits for one that has waited", y.actual(2, 0, true), 30);
        dueRun("of 10 minutes", y, 3, 0, 15, 9, 0, 15, 0);
    }

    private static void gapOfTheSameTram() {
        TramLines x = new TramLines();
        x.setTurn(1, true);
        x.setSection(0, 1, 0);
        x.set(0, 0);
        x.set(2, 10);
        x.addTrip(0, 1, 0);
        x.addTrip(1, 0, 1);
        x.addTrip(0, 1, 2);
        x.addVehicle(0);
        x.giveRound(0, 1, 0);
        x.give(2, 0);
        Check.due("not in the other direction", x.actual(1, 1, true), 1);
        Check.due("waits for its own departure", x.actual(2, 0, true), 10);
        dueRun("of one tram", x, 3, 0, 8, 8, 0, 8, 0);
    }

    private static void gapsAreByStopAndDirection() {
        TramLines x = new TramLines();
        x.set(2, 10);
        x.addTrip(0, 11, 10);
        x.addTrip(11, 0, 10);
        x.addVehicle(0);
        x.addVehicle(1);
        x.give(0, 0);
        x.give(1, 1);
        dueRun("of two directions", x, 2, 0, 0, 0, 0, 0, 0);
        TramLines y = trams(0, 10);
        y.set(2, 9);
        y.block(7, 0, 25);
        Check.due("the first one waits for the block", y.actual(0, 7, true), 26);
        Check.due("the second one waits behind it", y.actual(1, 7, true), 35);
        Check.due("but not before", y.actual(1, 6, true), 28);
    }

    private static void lowestTripFirst() {
        TramLines x = new TramLines();
        x.set(2, 3);
        x.addTrip(0, 11, 10);
        x.addTrip(0, 11, 10);
        x.addVehicle(0);
        x.addVehicle(0);
        x.give(1, 0);
        x.give(0, 1);
        Check.due("the lowest trip, not the lowest vehicle", x.actual(0, 0, true), 10);
        Check.due("the other one", x.actual(1, 0, true), 13);
        TramLines y = trams(12, 10);
        y.set(2, 3);
        Check.due("the earliest minute before the lowest trip", y.actual(1, 0, true), 10);
        Check.due("the lowest trip then", y.actual(0, 0, true), 13);
    }

    private static void edgesOfBlocks() {
        TramLines x = trams(10);
        int[][] blocks = {{25, 25}, {24, 24}, {26, 50}, {0, 25}, {25, 2000}};
        int[] want = {26, 25, 25, 26, 2001};
        for (int number = 0; number < blocks.length; number++) {
            x.block(5, blocks[number][0], blocks[number][1]);
            Check.due("block " + number, x.actual(0, 5, true), want[number]);
            Check.due("arrival in spite of block " + number, x.actual(0, 5, false), 25);
            Check.due("minutes of block " + number, x.run(6), want[number] - 25);
            x.unblock(0);
        }
        TramLines y = new TramLines();
        y.addTrip(11, 0, 0);
        y.addVehicle(1);
        y.give(0, 0);
        y.block(5, 15, 19);
        Check.due("down, entered from stop 6", y.actual(0, 6, true), 20);
        y.unblock(0);
        y.block(10, 0, 1);
        Check.due("down, at the first stop", y.actual(0, 11, true), 2);
    }

    private static void detours() {
        TramLines x = trams(10, 20);
        x.setSection(5, 9, 30);
        x.block(5, 20, 30);
        Check.due("the first one takes it", x.actual(0, 6, false), 55);
        Check.due("at once", x.actual(0, 5, true), 25);
        Check.due("the second one does not", x.actual(1, 6, false), 44);
        dueRun("of one detour", x, 2, 0, 21, 21, 1, 0, 0);
        x.block(5, 31, 35);
        dueRun("of two detours", x, 2, 0, 42, 21, 2, 0, 0);
        x.setSection(5, 9, 1);
        dueRun("of detours that are shorter", x, 2, 0, -16, -8, 2, 0, 0);
        Check.due("negative delay", x.delay(0), -8);
        Check.dueDouble("negative mean", x.meanDelay(), -8.0);
        x.setSection(5, 9, 0);
        dueRun("without a detour", x, 2, 0, 11 + 2, 11, 0, 1, 11 + 1);
    }

    private static void gapBeforeBlock() {
        TramLines x = trams(20, 25);
        x.set(2, 10);
        x.block(0, 21, 60);
        Check.due("at the end of the block", x.actual(1, 0, true), 61);
        dueRun("both", x, 2, 0, 36, 36, 0, 5, 31);
        x.setSection(0, 3, 7);
        dueRun("gap before detour", x, 2, 0, 5 + 4, 9, 1, 5, 0);
    }

    private static void gapBehindBlock() {
        TramLines x = trams(0, 10, 20);
        x.set(2, 4);
        x.block(3, 5, 40);
        Check.due("first", x.actual(0, 3, true), 41);
        Check.due("second", x.actual(1, 3, true), 45);
        Check.due("third", x.actual(2, 3, true), 49);
        dueRun("both", x, 3, 0, 32 + 26 + 20, 32, 0, 12, 32 + 22 + 12);
    }

    private static void blocksBehindBlocks() {
        TramLines x = trams(0);
        x.block(0, 0, 10);
        x.block(0, 5, 20);
        x.block(0, 21, 30);
        x.block(0, 32, 40);
        Check.due("of several blocks", x.actual(0, 0, true), 31);
        dueRun("of several blocks", x, 1, 0, 31, 31, 0, 0, 31);
    }

    /** Twelve trips of 99 minutes, at every 101 minutes, for one tram that begins at the end of a block. */
    private static TramLines longDay(int lastBlocked) {
        TramLines x = new TramLines();
        for (int section = 0; section < 11; section++) {
            x.setSection(section, 9, 0);
        }
        x.addVehicle(0);
        for (int trip = 0; trip < 12; trip++) {
            x.addTrip(trip % 2 == 0 ? 0 : 11, trip % 2 == 0 ? 11 : 0, 101 * trip);
            x.give(trip, 0);
        }
        x.block(0, 0, lastBlocked);
        return x;
    }

    private static void stuckTrips() {
        TramLines x = longDay(2000);
        Check.due("the ninth one", x.actual(8, 11, false), 2001 + 8 * 101 + 99);
        Check.due("the tenth one begins", x.actual(9, 11, true), 2910);
        Check.due("it gets to stop 1", x.actual(9, 1, false), 3000);
        Check.noElement("not away from it", () -> x.actual(9, 1, true));
        Check.noElement("not to its last stop", () -> x.actual(9, 0, false));
        Check.noElement("it has no delay", () -> x.delay(9));
        Check.noElement("the next one does not begin", () -> x.actual(10, 0, true));
        Check.noElement("nor the last one", () -> x.actual(11, 11, true));
        Check.noElement("it has no delay either", () -> x.delay(11));
        dueRun("of a long day", x, 9, 3, 9 * 2001, 2001, 0, 0, 2001);
        Check.dueDouble("mean of those that arrive", x.meanDelay(), 2001.0);
    }

    private static void departureAtTheLastMinute() {
        TramLines x = longDay(1999);
        Check.due("from stop 1", x.actual(9, 1, true), 2999);
        Check.due("it arrives", x.actual(9, 0, false), 3008);
        Check.due("with a delay", x.delay(9), 2000);
        Check.noElement("the next one would begin at 3010", () -> x.actual(10, 0, true));
        dueRun("of a long day", x, 10, 2, 10 * 2000, 2000, 0, 0, 2000);
    }

    /** Two trams side by side, where the second one waits for the gap and gets stuck likewise. */
    private static void waitsOfStuckTrips() {
        TramLines x = longDay(2000);
        x.set(2, 10);
        x.addVehicle(0);
        for (int trip = 0; trip < 12; trip++) {
            x.addTrip(trip % 2 == 0 ? 0 : 11, trip % 2 == 0 ? 11 : 0, 101 * trip);
            x.give(12 + trip, 1);
        }
        Check.due("behind the first one", x.actual(12, 0, true), 2011);
        Check.due("the tenth one begins", x.actual(21, 11, true), 2920);
        Check.due("gets to stop 2", x.actual(21, 2, false), 3001);
        Check.noElement("and gets stuck there", () -> x.actual(21, 2, true));
        Check.due("the first one gets stuck at stop 1", x.actual(9, 1, false), 3000);
        dueRun("of both", x, 18, 6, 9 * (2001 + 2011), 2011, 0, 10, 2001 * 2);
        Check.due("10 minutes are no bunch", x.actualBunches(1, 3), 0);
        x.set(1, 11);
        Check.due("departures of stuck trips count", x.actualBunches(1, 3), 5);
        Check.due("where one of them gets stuck", x.actualBunches(1, 2), 4);
        x.set(2, 2);
        Check.due("where none of them gets stuck", x.actualBunches(1, 2), 5);
        Check.due("where both get stuck", x.actualBunches(1, 1), 4);
    }

    private static void actualBunches() {
        TramLines x = trams(0, 10, 20);
        x.addTrip(0, 11, 0);
        x.block(3, 5, 30);
        Check.due("before the block", x.actualBunches(0, 2), 0);
        Check.due("behind the block, in time order", x.actualBunches(0, 3), 2);
        x.set(1, 1);
        Check.due("at the gap", x.actualBunches(0, 3), 0);
        x.set(2, 0);
        Check.due("without a gap", x.actualBunches(0, 3), 2);
        Check.due("planned ones are others", x.bunches(0, 0), 1);
        x.set(1, 10);
        Check.due("just the least headway", x.actualBunches(0, 2), 0);
        x.set(1, 11);
        Check.due("below the least headway", x.actualBunches(0, 2), 2);
        Check.due("the last stop", x.actualBunches(0, 11), 0);
        Check.due("the other direction", x.actualBunches(1, 3), 0);
        int[][] wrong = {{-1, 0}, {2, 0}, {0, -1}, {1, 12}};
        for (int[] place : wrong) {
            Check.noSuchIndex("actualBunches at " + place[0] + ", " + place[1],
                    () -> x.actualBunches(place[0], place[1]));
        }
    }

    private static void meanDelays() {
        TramLines x = trams(0, 1, 2);
        x.set(2, 0);
        Check.dueDouble("in time", x.meanDelay(), 0.0);
        x.block(0, 1, 1);
        Check.dueDouble("of a third", x.meanDelay(), 1.0 / 3.0);
        x.take(0);
        Check.dueDouble("of a half", x.meanDelay(), 0.5);
        x.take(1);
        x.take(2);
        Check.noNumber("none is in a duty", x::meanDelay);
    }
}
