import java.util.function.Consumer;

/** The boundary cases of "Changes" and of the promises 40 to 42, a test for each sentence. */
public final class UndoBoundariesTest {

    /** A call by its name. */
    private record Named(String name, Consumer<TramLines> call) {
    }

    private static final Named[] CHANGES = {
        new Named("setSection", x -> x.setSection(10, 1, 30)),
        new Named("setTurn, allowed", x -> x.setTurn(7, true)),
        new Named("setTurn, not allowed", x -> x.setTurn(6, false)),
        new Named("set 0", x -> x.set(0, 0)),
        new Named("set 1", x -> x.set(1, 30)),
        new Named("set 2", x -> x.set(2, 10)),
        new Named("addTrip", x -> x.addTrip(5, 11, 1439)),
        new Named("cancel, to be cancelled", x -> x.cancel(0, true)),
        new Named("cancel, to be active", x -> x.cancel(5, false)),
        new Named("addVehicle", x -> x.addVehicle(1)),
        new Named("give", x -> x.give(2, 0)),
        new Named("giveRound", x -> x.giveRound(2, 3, 0)),
        new Named("take", x -> x.take(0)),
        new Named("exchange", x -> x.exchange(0, 1, 0)),
        new Named("block", x -> x.block(0, 0, 50)),
        new Named("unblock", x -> x.unblock(0)),
        new Named("turnShort", x -> x.turnShort(0, 5)),
        new Named("startLate", x -> x.startLate(0, 5)),
        new Named("relink", x -> x.relink()),
        new Named("readTrips", x -> type(x, "0-11@7;11-0@8;").readTrips()),
    };

    private static final Named[] CHANGES_OF_NOTHING = {
        new Named("setSection", x -> x.setSection(4, 3, 0)),
        new Named("setTurn, allowed", x -> x.setTurn(5, true)),
        new Named("setTurn, not allowed", x -> x.setTurn(7, false)),
        new Named("set", x -> x.set(1, 4)),
        new Named("cancel, to be cancelled", x -> x.cancel(5, true)),
        new Named("cancel, to be active", x -> x.cancel(0, false)),
        new Named("exchange", x -> x.exchange(0, 1, 1440)),
    };

    private static final Named[] NO_CHANGES = {
        new Named("trip", x -> x.trip(0, 0)), new Named("planned", x -> x.planned(0, 0)),
        new Named("count", x -> x.count(0)), new Named("passage", x -> x.passage(0, 0, 0, true)),
        new Named("bunches", x -> x.bunches(0, 0)), new Named("headway", x -> x.headway(0, 0, true)),
        new Named("meanHeadway", x -> x.meanHeadway(0, 0)), new Named("wouldRefuse", x -> x.wouldRefuse(2, 0)),
        new Named("duty", x -> x.duty(0, 0)), new Named("vehicle", x -> x.vehicle(0, 0)),
        new Named("leaving", x -> x.leaving(0, 0)), new Named("actual", x -> x.actual(0, 0, true)),
        new Named("delay", x -> x.delay(0)), new Named("run", x -> x.run(0)),
        new Named("actualBunches", x -> x.actualBunches(0, 0)), new Named("meanDelay", x -> x.meanDelay()),
        new Named("leastVehicles by waiting", x -> x.leastVehicles(true)),
        new Named("leastVehicles by matching", x -> x.leastVehicles(false)),
        new Named("leastCost", x -> x.leastCost(100)), new Named("nextTrip", x -> x.nextTrip(0)),
        new Named("append", x -> x.append('0')), new Named("faultPosition", x -> x.faultPosition()),
        new Named("save", x -> x.save()),
    };

    public static void main(String[] args) {
        eachChange();
        changesOfNothing();
        noChanges();
        latestEight();
        manyChanges();
        restoreForgets();
        notOfTheLine();
        changesLeft();
        noChangeKept();
        inPlaceOfEarlier();
        snapshotIsKept();
        noSnapshot();
        lastCall();
        Check.finish();
    }

    private static TramLines type(TramLines x, String text) {
        for (int index = 0; index < text.length(); index++) {
            x.append(text.charAt(index));
        }
        return x;
    }

    /** 0: 0-11@0, 1: 11-0@40 of vehicle 0, 4: 0-11@1 of vehicle 1, 2: 0-11@80, 3: 11-0@120, 5: 5-11@0, cancelled. */
    private static TramLines line() {
        TramLines x = new TramLines();
        x.setTurn(5, true);
        x.setTurn(6, true);
        x.addTrip(0, 11, 0);
        x.addTrip(11, 0, 40);
        x.addTrip(0, 11, 80);
        x.addTrip(11, 0, 120);
        x.addTrip(0, 11, 1);
        x.addTrip(5, 11, 0);
        x.cancel(5, true);
        x.addVehicle(0);
        x.addVehicle(0);
        x.giveRound(0, 1, 0);
        x.give(4, 1);
        x.block(10, 0, 100);
        x.block(3, 0, 20);
        x.save();
        x.restore();
        return x;
    }

    private static void eachChange() {
        Check.sentence("A change is a successful call of setSection, setTurn, set, addTrip, cancel, addVehicle, give, "
                + "giveRound, take, exchange, block, unblock, turnShort, startLate, relink or readTrips.");
        for (Named change : CHANGES) {
            TramLines x = line();
            String before = Picture.of(x);
            Check.badState("none before " + change.name, x::undo);
            change.call.accept(x);
            Check.due("undo of " + change.name, x.undo(), 0);
            Check.dueText("the line as before " + change.name, Picture.of(x), before);
            Check.badState("none but " + change.name, x::undo);
            Check.dueText("all as before " + change.name, Picture.byChanges(x), Picture.byChanges(line()));
            TramLines y = line();
            change.call.accept(y);
            Check.due("it makes a difference: " + change.name,
                    (Picture.of(y) + Picture.byChanges(y)).equals(before + Picture.byChanges(line())), false);
        }
    }

    private static void changesOfNothing() {
        Check.sentence("A call that is successful is a change even if it leaves all as it was.");
        for (Named change : CHANGES_OF_NOTHING) {
            TramLines x = line();
            String before = Picture.of(x);
            change.call.accept(x);
            Check.dueText("the line behind " + change.name, Picture.of(x), before);
            Check.due("undo of " + change.name, x.undo(), 0);
            Check.dueText("the line as before " + change.name, Picture.of(x), before);
        }
        TramLines x = new TramLines();
        x.relink();
        Check.due("relink of nothing", x.undo(), 0);
    }

    private static void noChanges() {
        Check.sentence("A change is a successful call of (no other ones)");
        for (Named call : NO_CHANGES) {
            TramLines x = line();
            call.call.accept(x);
            Check.badState("no change by " + call.name, x::undo);
        }
        TramLines x = line();
        x.addVehicle(0);
        x.undo();
        Check.badState("no change by undo", x::undo);
        Check.notSupported("give", () -> x.give(0, 0));
        x.refusal();
        Check.badState("no change by refusal", x::undo);
        x.restore();
        Check.badState("no change by restore", x::undo);
    }

    private static void latestEight() {
        Check.sentence("The line before each of the latest 8 changes is kept and can be undone");
        for (int changes = 7; changes <= 9; changes++) {
            TramLines x = new TramLines();
            for (int trip = 0; trip < changes; trip++) {
                x.addTrip(0, 11, trip);
            }
            int kept = Math.min(8, changes);
            for (int left = kept - 1; left >= 0; left--) {
                Check.due("left of " + changes, x.undo(), left);
                Check.due("trips of " + changes, x.count(0), changes - kept + left);
            }
            Check.badState("no more of " + changes, x::undo);
            Check.due("trips in the end of " + changes, x.count(0), changes - kept);
        }
    }

    /** The place of the oldest one goes round more than once. */
    private static void manyChanges() {
        Check.sentence("the latest 8 changes (of many)");
        TramLines x = new TramLines();
        for (int value = 0; value < 30; value++) {
            x.set(1, value + 1);
            x.addTrip(0, 11, value);
        }
        Check.due("the latest one", x.undo(), 7);
        Check.due("the one before", x.undo(), 6);
        Check.due("trips", x.count(0), 29);
        x.addTrip(11, 0, 500);
        x.addVehicle(0);
        x.give(28, 0);
        Check.due("two undone, three made: of eight", x.undo(), 7);
        for (int left = 6; left >= 0; left--) {
            Check.due("on", x.undo(), left);
        }
        Check.due("trips in the end", x.count(0), 26);
        Check.due("the setting before the earliest one kept", x.set(1, 1), 27);
        Check.badState("but for the new one none is left", () -> {
            x.undo();
            x.undo();
        });
    }

    private static void restoreForgets() {
        Check.sentence("restore forgets them.");
        TramLines x = new TramLines();
        x.addTrip(0, 11, 0);
        x.save();
        Check.due("save does not", x.undo(), 0);
        for (int trip = 0; trip < 8; trip++) {
            x.addTrip(0, 11, 0);
        }
        x.restore();
        Check.badState("none is left", x::undo);
        Check.due("as saved", x.count(0), 1);
        x.addTrip(0, 11, 0);
        Check.due("one that is made then", x.undo(), 0);
        Check.badState("none before it", x::undo);
        Check.due("as saved again", x.count(0), 1);
    }

    private static void notOfTheLine() {
        Check.sentence("The text buffer, the fault position and the reason that is kept do not belong to it.");
        TramLines x = line();
        type(x, "0-");
        x.addVehicle(0);
        type(x, "11@");
        x.undo();
        type(x, "7");
        x.restore();
        type(x, ";");
        Check.due("the buffer stays", x.readTrips(), 1);
        Check.badArgument("an empty text", x::readTrips);
        x.undo();
        Check.due("the fault position stays behind undo", x.faultPosition(), 0);
        x.restore();
        Check.due("the fault position stays behind restore", x.faultPosition(), 0);
        x.addVehicle(0);
        Check.notSupported("give", () -> x.give(0, 0));
        x.undo();
        Check.due("the reason stays behind undo", x.refusal(), 2);
        x.restore();
        Check.due("the reason stays behind restore", x.refusal(), 2);
    }

    private static void changesLeft() {
        Check.sentence("undo returns the number of changes that can still be undone.");
        TramLines x = new TramLines();
        x.addVehicle(0);
        Check.due("one: none is left", x.undo(), 0);
        x.addVehicle(0);
        x.addVehicle(0);
        Check.due("two: one is left", x.undo(), 1);
        x.addVehicle(0);
        Check.due("two again", x.undo(), 1);
        for (int change = 0; change < 100; change++) {
            x.set(0, change % 21);
        }
        Check.due("of a hundred", x.undo(), 7);
        Check.due("the value before the latest one", x.set(0, 0), 98 % 21);
    }

    private static void noChangeKept() {
        Check.sentence("undo throws IllegalStateException if no change is kept");
        TramLines x = new TramLines();
        Check.badState("at first", x::undo);
        Check.badState("at first again", x::undo);
        x.addTrip(0, 11, 0);
        x.undo();
        Check.badState("all are undone", x::undo);
        x.save();
        x.addTrip(0, 11, 0);
        x.restore();
        Check.badState("all are forgotten", x::undo);
        Check.badArgument("addTrip", () -> x.addTrip(0, 0, 0));
        Check.badState("a call that throws", x::undo);
        Check.due("the line is as it was", x.count(0), 0);
    }

    private static void inPlaceOfEarlier() {
        Check.sentence("Saves the line, in place of an earlier snapshot.");
        TramLines x = line();
        String first = Picture.of(x);
        for (Named change : CHANGES) {
            TramLines y = line();
            y.save();
            change.call.accept(y);
            String changed = Picture.of(y);
            y.save();
            y.relink();
            y.addVehicle(1);
            y.restore();
            Check.dueText("saved behind " + change.name, Picture.of(y), changed);
        }
        x.addVehicle(0);
        x.undo();
        x.save();
        x.restore();
        Check.dueText("saved as it was", Picture.of(x), first);
    }

    private static void snapshotIsKept() {
        Check.sentence("Restores what was saved; the snapshot is kept.");
        for (Named change : CHANGES) {
            TramLines x = line();
            String saved = Picture.ofLine(x);
            change.call.accept(x);
            x.restore();
            Check.dueText("restored behind " + change.name, Picture.ofLine(x), saved);
            change.call.accept(x);
            x.restore();
            Check.dueText("restored twice behind " + change.name, Picture.ofLine(x), saved);
            Check.dueText("all restored behind " + change.name, Picture.byChanges(x).replaceAll("(?s)\nread.*", ""),
                    Picture.byChanges(line()).replaceAll("(?s)\nread.*", ""));
        }
        TramLines y = new TramLines();
        y.save();
        y.addVehicle(0);
        y.undo();
        y.addVehicle(1);
        y.restore();
        Check.due("an empty line", y.count(3), 0);
        y.addVehicle(0);
        y.undo();
        y.restore();
        Check.due("restored with nothing to restore", y.count(3), 0);
    }

    private static void noSnapshot() {
        Check.sentence("restore throws IllegalStateException if there is no snapshot");
        TramLines x = new TramLines();
        Check.badState("at first", x::restore);
        x.addTrip(0, 11, 0);
        x.addTrip(0, 11, 0);
        Check.badState("behind changes", x::restore);
        Check.due("the changes are not forgotten", x.undo(), 1);
        Check.badState("behind undo", x::restore);
        Check.due("the line is as it was", x.count(0), 1);
        x.save();
        x.undo();
        x.restore();
        Check.due("there is one", x.count(0), 1);
    }

    private static void lastCall() {
        Check.sentence("An object is used for at most 512 calls after it has been made");
        TramLines x = new TramLines();
        x.addVehicle(0);
        x.addTrip(0, 11, 0);
        for (int call = 3; call <= 509; call += 2) {
            Check.due("the call " + call, x.give(0, 0), 0);
            Check.due("the call behind " + call, x.take(0), 0);
        }
        Check.notSupported("the 511th call", () -> x.giveRound(0, 0, 0));
        Check.due("the 512th call", x.undo(), 7);
    }
}
