import java.util.function.Consumer;

/** The paragraph "Exceptions": what a call that throws leaves as it was, and which exception it throws. */
public final class ExceptionsTest {

    /** A call that throws, by its name. */
    private record Refused(String name, Class<? extends RuntimeException> by, Consumer<TramLines> call) {
    }

    private static final Class<IndexOutOfBoundsException> INDEX = IndexOutOfBoundsException.class;
    private static final Class<IllegalArgumentException> ARGUMENT = IllegalArgumentException.class;
    private static final Class<IllegalStateException> STATE = IllegalStateException.class;
    private static final Class<java.util.NoSuchElementException> ELEMENT = java.util.NoSuchElementException.class;
    private static final Class<UnsupportedOperationException> UNSUPPORTED = UnsupportedOperationException.class;
    private static final Class<ArithmeticException> NUMBER = ArithmeticException.class;

    /** Calls that throw on the line of few(). */
    private static final Refused[] OF_FEW = {
        new Refused("setSection, section", INDEX, x -> x.setSection(11, 3, 0)),
        new Refused("setSection, minutes", ARGUMENT, x -> x.setSection(10, 10, 0)),
        new Refused("setSection, detour", ARGUMENT, x -> x.setSection(10, 3, 31)),
        new Refused("setSection, duty", STATE, x -> x.setSection(10, 4, 30)),
        new Refused("setTurn, stop", INDEX, x -> x.setTurn(11, true)),
        new Refused("setTurn, trip", STATE, x -> x.setTurn(5, false)),
        new Refused("set, setting", INDEX, x -> x.set(3, 0)),
        new Refused("set, value", ARGUMENT, x -> x.set(0, 21)),
        new Refused("set, duty", STATE, x -> x.set(0, 3)),
        new Refused("addTrip, stop", INDEX, x -> x.addTrip(0, 12, 0)),
        new Refused("addTrip, stops", ARGUMENT, x -> x.addTrip(0, 0, 0)),
        new Refused("addTrip, turn", ARGUMENT, x -> x.addTrip(0, 7, 0)),
        new Refused("addTrip, departure", ARGUMENT, x -> x.addTrip(0, 11, 1440)),
        new Refused("cancel, trip", INDEX, x -> x.cancel(4, true)),
        new Refused("cancel, turn", STATE, x -> x.cancel(3, false)),
        new Refused("trip, trip", INDEX, x -> x.trip(4, 0)),
        new Refused("trip, what", ARGUMENT, x -> x.trip(0, 7)),
        new Refused("planned, trip", INDEX, x -> x.planned(4, 0)),
        new Refused("planned, stop", ELEMENT, x -> x.planned(2, 6)),
        new Refused("count, what", ARGUMENT, x -> x.count(7)),
        new Refused("passage, stop", INDEX, x -> x.passage(0, 12, 0, true)),
        new Refused("passage, index", ELEMENT, x -> x.passage(0, 0, 2, true)),
        new Refused("bunches, direction", INDEX, x -> x.bunches(2, 0)),
        new Refused("headway, direction", INDEX, x -> x.headway(-1, 0, true)),
        new Refused("headway, passages", ELEMENT, x -> x.headway(1, 11, true)),
        new Refused("meanHeadway, stop", INDEX, x -> x.meanHeadway(0, -1)),
        new Refused("meanHeadway, passages", NUMBER, x -> x.meanHeadway(1, 11)),
        new Refused("addVehicle, depot", INDEX, x -> x.addVehicle(2)),
        new Refused("give, trip", INDEX, x -> x.give(4, 0)),
        new Refused("giveRound, vehicle", INDEX, x -> x.giveRound(0, 1, 3)),
        new Refused("wouldRefuse, vehicle", INDEX, x -> x.wouldRefuse(0, 3)),
        new Refused("take, vehicle", INDEX, x -> x.take(3)),
        new Refused("take, duty", ELEMENT, x -> x.take(2)),
        new Refused("exchange, vehicle", INDEX, x -> x.exchange(0, 3, 0)),
        new Refused("exchange, same", ARGUMENT, x -> x.exchange(1, 1, 0)),
        new Refused("exchange, duty", STATE, x -> x.exchange(0, 2, 0)),
        new Refused("duty, vehicle", INDEX, x -> x.duty(3, 0)),
        new Refused("duty, position", ELEMENT, x -> x.duty(0, 2)),
        new Refused("vehicle, vehicle", INDEX, x -> x.vehicle(3, 0)),
        new Refused("vehicle, what", ARGUMENT, x -> x.vehicle(0, 7)),
        new Refused("leaving, depot", INDEX, x -> x.leaving(2, 0)),
        new Refused("leaving, index", ELEMENT, x -> x.leaving(0, 2)),
        new Refused("block, section", INDEX, x -> x.block(11, 0, 0)),
        new Refused("block, first", ARGUMENT, x -> x.block(0, 2001, 2001)),
        new Refused("block, last", ARGUMENT, x -> x.block(0, 1, 0)),
        new Refused("unblock, block", INDEX, x -> x.unblock(1)),
        new Refused("actual, trip", INDEX, x -> x.actual(4, 0, true)),
        new Refused("actual, stop", ELEMENT, x -> x.actual(0, 11, true)),
        new Refused("delay, trip", INDEX, x -> x.delay(-1)),
        new Refused("delay, duty", ELEMENT, x -> x.delay(3)),
        new Refused("run, what", ARGUMENT, x -> x.run(7)),
        new Refused("actualBunches, stop", INDEX, x -> x.actualBunches(0, 12)),
        new Refused("turnShort, trip", INDEX, x -> x.turnShort(4, 5)),
        new Refused("turnShort, stop", ARGUMENT, x -> x.turnShort(0, 6)),
        new Refused("startLate, trip", INDEX, x -> x.startLate(4, 5)),
        new Refused("startLate, stop", ARGUMENT, x -> x.startLate(0, 11)),
        new Refused("leastCost, price", ARGUMENT, x -> x.leastCost(1001)),
        new Refused("nextTrip, trip", INDEX, x -> x.nextTrip(4)),
        new Refused("nextTrip, none", ELEMENT, x -> x.nextTrip(1)),
    };

    /** Calls that throw on the line of full(). */
    private static final Refused[] OF_FULL = {
        new Refused("addTrip", STATE, x -> x.addTrip(0, 11, 0)),
        new Refused("addVehicle", STATE, x -> x.addVehicle(0)),
        new Refused("block", STATE, x -> x.block(0, 0, 0)),
        new Refused("append", STATE, x -> x.append(';')),
        new Refused("startLate, departure", ARGUMENT, x -> x.startLate(29, 5)),
    };

    /** Calls that throw on a new line. */
    private static final Refused[] OF_NEW = {
        new Refused("undo", STATE, x -> x.undo()),
        new Refused("restore", STATE, x -> x.restore()),
        new Refused("refusal", ELEMENT, x -> x.refusal()),
        new Refused("meanDelay", NUMBER, x -> x.meanDelay()),
    };

    public static void main(String[] args) {
        unchangedFew();
        unchangedFull();
        unchangedNew();
        unchangedButForTheReason();
        unchangedButForTheText();
        firstListed();
        firstListedOfFull();
        Check.finish();
    }

    /** Nine changes behind a snapshot, a reason, a fault position, and a text that is not yet read. */
    private static TramLines few() {
        TramLines x = new TramLines();
        x.setTurn(5, true);
        x.setTurn(6, true);
        x.addTrip(0, 11, 10);
        x.addTrip(11, 0, 45);
        x.addTrip(0, 5, 10);
        x.save();
        x.addTrip(0, 6, 50);
        x.cancel(3, true);
        x.setTurn(6, false);
        x.addVehicle(0);
        x.addVehicle(0);
        x.addVehicle(1);
        x.giveRound(0, 1, 0);
        x.give(2, 1);
        x.block(3, 0, 20);
        try {
            x.give(0, 0);
        } catch (UnsupportedOperationException e) {
            // The reason is 2.
        }
        type(x, "0-11@5;x");
        try {
            x.readTrips();
        } catch (IllegalArgumentException e) {
            // The fault position is 7.
        }
        type(x, "0-5@9;0-");
        return x;
    }

    /** As many of all as can be kept. */
    private static TramLines full() {
        TramLines x = new TramLines();
        x.setTurn(5, true);
        for (int trip = 0; trip < 30; trip++) {
            x.addTrip(0, 11, 1410 + trip);
        }
        for (int vehicle = 0; vehicle < 10; vehicle++) {
            x.addVehicle(0);
        }
        for (int block = 0; block < 6; block++) {
            x.block(block, 0, 100 * block);
        }
        type(x, "0-11@1111;0-11@2;");
        for (int index = 17; index < 60; index++) {
            x.append('1');
        }
        return x;
    }

    private static void type(TramLines x, String text) {
        for (int index = 0; index < text.length(); index++) {
            x.append(text.charAt(index));
        }
    }

    private static void unchangedFew() {
        Check.sentence("A call that throws an exception leaves the state unchanged, unless stated otherwise.");
        for (Refused refused : OF_FEW) {
            TramLines x = few();
            TramLines y = few();
            Check.refused(refused.name, refused.by, () -> refused.call.accept(x));
            Check.dueText("the line behind " + refused.name, Picture.of(x), Picture.of(y));
            for (int left = 7; left >= 0; left--) {
                Check.due("undo behind " + refused.name, x.undo(), left);
                y.undo();
            }
            Check.badState("no more behind " + refused.name, x::undo);
            Check.dueText("undone behind " + refused.name, Picture.of(x), Picture.of(y));
            x.restore();
            y.restore();
            Check.dueText("restored behind " + refused.name, Picture.of(x), Picture.of(y));
            type(x, "5@3;");
            type(y, "5@3;");
            Check.dueText("all behind " + refused.name, Picture.byChanges(x), Picture.byChanges(y));
            TramLines z = few();
            Check.refused(refused.name, refused.by, () -> refused.call.accept(z));
            Check.dueText("unseen things behind " + refused.name, Picture.byChanges(z), Picture.byChanges(few()));
        }
    }

    private static void unchangedFull() {
        Check.sentence("A call that throws an exception leaves the state unchanged, unless stated otherwise. (full)");
        for (Refused refused : OF_FULL) {
            TramLines x = full();
            Check.refused(refused.name, refused.by, () -> refused.call.accept(x));
            Check.dueText("the line behind " + refused.name, Picture.of(x), Picture.of(full()));
            TramLines y = full();
            Check.refused(refused.name, refused.by, () -> refused.call.accept(y));
            for (int left = 7; left >= 0; left--) {
                Check.due("undo behind " + refused.name, y.undo(), left);
            }
            Check.badState("no more behind " + refused.name, y::undo);
            Check.badArgument("the text behind " + refused.name, y::readTrips);
            Check.due("its fault behind " + refused.name, y.faultPosition(), 19);
        }
    }

    private static void unchangedNew() {
        Check.sentence("A call that throws an exception leaves the state unchanged, unless stated otherwise. (new)");
        for (Refused refused : OF_NEW) {
            TramLines x = new TramLines();
            Check.refused(refused.name, refused.by, () -> refused.call.accept(x));
            Check.refused(refused.name + " again", refused.by, () -> refused.call.accept(x));
            Check.dueText("the line behind " + refused.name, Picture.of(x), Picture.of(new TramLines()));
            Check.dueText("all behind " + refused.name, Picture.byChanges(x), Picture.byChanges(new TramLines()));
        }
    }

    private static void unchangedButForTheReason() {
        Check.sentence("if this is refused; the reason is kept for refusal (and all else is unchanged)");
        TramLines x = few();
        TramLines y = few();
        Check.notSupported("give", () -> x.give(3, 0));
        Check.due("the reason of give", x.refusal(), 1);
        Check.notSupported("giveRound", () -> x.giveRound(0, 1, 2));
        Check.due("the reason of giveRound", x.refusal(), 2);
        Check.dueText("the line", Picture.of(x), Picture.of(y));
        Check.due("undo", x.undo(), 7);
        y.undo();
        Check.dueText("undone", Picture.of(x), Picture.of(y));
        Check.dueText("all", Picture.byChanges(x), Picture.byChanges(y));
    }

    private static void unchangedButForTheText() {
        Check.sentence("The buffer is emptied, also if an exception is thrown; then no trip is added. (all else is "
                + "unchanged)");
        TramLines x = few();
        TramLines y = few();
        Check.badArgument("a fault", x::readTrips);
        type(x, "0-0@5;");
        Check.badState("a refused one", x::readTrips);
        Check.dueText("the line", Picture.ofLine(x), Picture.ofLine(y));
        Check.due("the reason", x.refusal(), 2);
        Check.due("undo", x.undo(), 7);
        y.undo();
        Check.dueText("undone", Picture.ofLine(x), Picture.ofLine(y));
    }

    private static void firstListed() {
        Check.sentence("If several conditions of a method are fulfilled, the one that is listed first determines the "
                + "exception.");
        TramLines x = few();
        Check.noSuchIndex("setSection: section, time", () -> x.setSection(-1, 0, 0));
        Check.badArgument("setSection: time, duty", () -> x.setSection(0, 9, 31));
        Check.noSuchIndex("set: setting, value", () -> x.set(-1, 99));
        Check.badArgument("set: value, duty", () -> x.set(0, 21));
        Check.noSuchIndex("addTrip: stop, departure", () -> x.addTrip(0, 12, 1440));
        Check.noSuchIndex("addTrip: last stop, same stops", () -> x.addTrip(12, 12, 0));
        Check.noSuchIndex("addTrip: last stop, no turn", () -> x.addTrip(3, -1, 0));
        Check.noSuchIndex("trip: trip, what", () -> x.trip(4, 7));
        Check.noSuchIndex("planned: trip, stop", () -> x.planned(4, 12));
        Check.noSuchIndex("passage: direction, index", () -> x.passage(2, 0, -1, true));
        Check.noSuchIndex("headway: stop, passages", () -> x.headway(0, 12, true));
        Check.noSuchIndex("meanHeadway: stop, passages", () -> x.meanHeadway(0, 12));
        Check.noSuchIndex("give: vehicle, refused", () -> x.give(0, 3));
        Check.noSuchIndex("giveRound: vehicle, refused", () -> x.giveRound(0, 0, 3));
        Check.noSuchIndex("exchange: vehicle, same", () -> x.exchange(3, 3, 0));
        Check.badArgument("exchange: same, for any minute", () -> x.exchange(0, 0, 45));
        Check.noSuchIndex("duty: vehicle, position", () -> x.duty(3, -1));
        Check.noSuchIndex("vehicle: vehicle, what", () -> x.vehicle(-1, -1));
        Check.noSuchIndex("leaving: depot, index", () -> x.leaving(-1, -1));
        Check.noSuchIndex("block: section, minutes", () -> x.block(-1, 5, 4));
        Check.noSuchIndex("actual: trip, stop", () -> x.actual(4, 12, true));
        Check.noSuchIndex("turnShort: trip, stop", () -> x.turnShort(-1, 12));
        Check.noSuchIndex("startLate: trip, stop", () -> x.startLate(-1, 12));
    }

    private static void firstListedOfFull() {
        Check.sentence("If several conditions of a method are fulfilled, the one that is listed first determines the "
                + "exception. (full)");
        TramLines x = full();
        Check.noSuchIndex("addTrip: stop, full", () -> x.addTrip(-1, 11, 0));
        Check.badArgument("addTrip: stops, full", () -> x.addTrip(11, 11, 0));
        Check.badArgument("addTrip: turn, full", () -> x.addTrip(6, 11, 0));
        Check.badArgument("addTrip: departure, full", () -> x.addTrip(0, 11, -1));
        Check.noSuchIndex("addVehicle: depot, full", () -> x.addVehicle(-1));
        Check.noSuchIndex("block: section, full", () -> x.block(11, 0, 0));
        Check.badArgument("block: first, full", () -> x.block(0, -1, 0));
        Check.badArgument("block: last, full", () -> x.block(0, 0, 2001));
        Check.badArgument("readTrips: fault, full", x::readTrips);
    }
}
