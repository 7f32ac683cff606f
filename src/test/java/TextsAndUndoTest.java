/** Promises 37 to 42: the text buffer, texts of trips, their faults, undo and the snapshot. */
public final class TextsAndUndoTest {

    public static void main(String[] args) {
        fullBuffer();
        soundTexts();
        faults();
        strangeSigns();
        refusedTexts();
        tooManyTrips();
        latestText();
        changes();
        noChanges();
        undone();
        depthOfUndo();
        snapshots();
        undoAndSnapshots();
        textsAreNotOfTheLine();
        Check.finish();
    }

    private static void type(TramLines x, String text) {
        for (int index = 0; index < text.length(); index++) {
            x.append(text.charAt(index));
        }
    }

    private static void fullBuffer() {
        TramLines x = new TramLines();
        x.setTurn(1, true);
        StringBuilder text = new StringBuilder();
        for (int trip = 0; trip < 10; trip++) {
            text.append("0-1@").append(trip).append(';');
        }
        type(x, text.toString());
        Check.badState("a 61st sign", () -> x.append('0'));
        Check.badState("and another one", () -> x.append(';'));
        Check.due("ten trips", x.readTrips(), 10);
        Check.due("the last of them", x.trip(9, 2), 9);
        for (int index = 0; index < 60; index++) {
            x.append('1');
        }
        Check.badState("full again", () -> x.append('1'));
        Check.badArgument("sixty digits", x::readTrips);
        Check.due("their fault", x.faultPosition(), 2);
        type(x, "0-1@7;");
        Check.due("empty behind a fault", x.readTrips(), 1);
    }

    private static void dueTrip(String what, TramLines x, int trip, int first, int last, int departure) {
        Check.due(what + " first", x.trip(trip, 0), first);
        Check.due(what + " last", x.trip(trip, 1), last);
        Check.due(what + " departure", x.trip(trip, 2), departure);
        Check.due(what + " active", x.trip(trip, 5), 0);
        Check.due(what + " vehicle", x.trip(trip, 6), -1);
    }

    private static void soundTexts() {
        TramLines x = new TramLines();
        x.setTurn(10, true);
        x.setTurn(2, true);
        type(x, "0-11@0;11-0@1439;2-10@10;");
        Check.due("three", x.readTrips(), 3);
        Check.due("without a fault", x.faultPosition(), -1);
        dueTrip("first", x, 0, 0, 11, 0);
        dueTrip("second", x, 1, 11, 0, 1439);
        dueTrip("third", x, 2, 2, 10, 10);
        type(x, "10-2@999;");
        Check.due("one more", x.readTrips(), 1);
        dueTrip("one more", x, 3, 10, 2, 999);
        type(x, "0-11@1000;0-11@1399;");
        Check.due("two more", x.readTrips(), 2);
        dueTrip("of four digits", x, 5, 0, 11, 1399);
        Check.due("all", x.count(0), 6);
    }

    private static void dueFault(String text, int position) {
        TramLines x = new TramLines();
        type(x, text);
        Check.badArgument("readTrips of " + text, x::readTrips);
        Check.due("fault of " + text, x.faultPosition(), position);
        Check.due("none added by " + text, x.count(0), 0);
        Check.badState("no change by " + text, x::undo);
    }

    private static void faults() {
        String early = "0-11@5;11-0@1439;";
        for (int end = 0; end < early.length(); end++) {
            if (end != 7) {
                dueFault(early.substring(0, end), end);
            }
        }
        dueFault(";", 0);
        dueFault("-0@5;", 0);
        dueFault("a", 0);
        dueFault(" 0-11@5;", 0);
        dueFault("0 -11@5;", 1);
        dueFault("00-11@5;", 1);
        dueFault("01-11@5;", 1);
        dueFault("12-0@5;", 1);
        dueFault("20-0@5;", 1);
        dueFault("99", 1);
        dueFault("110-0@5;", 2);
        dueFault("0@5;", 1);
        dueFault("0;", 1);
        dueFault("0--11@5;", 2);
        dueFault("0-@5;", 2);
        dueFault("0-00@5;", 3);
        dueFault("0-011@5;", 3);
        dueFault("0-12@5;", 3);
        dueFault("0-30@5;", 3);
        dueFault("0-111@5;", 4);
        dueFault("0-11-5;", 4);
        dueFault("0-11;", 4);
        dueFault("0-11@;", 5);
        dueFault("0-11@-1;", 5);
        dueFault("0-11@x;", 5);
        dueFault("0-11@00;", 6);
        dueFault("0-11@05;", 6);
        dueFault("0-11@5,", 6);
        dueFault("0-11@5-", 6);
        dueFault("0-11@1440;", 8);
        dueFault("0-11@1500;", 8);
        dueFault("0-11@9999;", 8);
        dueFault("0-11@14390;", 9);
        dueFault("0-11@10000;", 9);
        dueFault("0-11@5;;", 7);
        dueFault("0-11@5; 0-11@5;", 7);
        dueFault("0-11@5;0-12@5;", 10);
        dueFault("0-0@5;x", 6);
    }

    private static void strangeSigns() {
        char[] signs = {0, 47, 58, 255, 1633, 65297, 65535};
        for (char sign : signs) {
            dueFault("" + sign, 0);
            dueFault("1" + sign, 1);
            dueFault("0-11@1" + sign, 6);
        }
    }

    private static void dueRefused(TramLines x, String text) {
        int trips = x.count(0);
        type(x, text);
        Check.badState("readTrips of " + text, x::readTrips);
        Check.due("no fault of " + text, x.faultPosition(), -1);
        Check.due("none added by " + text, x.count(0), trips);
        Check.badArgument("emptied by " + text, x::readTrips);
        Check.due("fault of nothing", x.faultPosition(), 0);
    }

    private static void refusedTexts() {
        TramLines x = new TramLines();
        dueRefused(x, "0-0@5;");
        dueRefused(x, "5-11@5;");
        dueRefused(x, "0-5@5;");
        dueRefused(x, "0-11@5;0-5@5;");
        dueRefused(x, "0-11@5;11-11@5;0-11@5;");
        Check.badState("no change", x::undo);
        x.setTurn(5, true);
        type(x, "0-5@5;5-11@5;");
        Check.due("with a turn", x.readTrips(), 2);
    }

    private static void tooManyTrips() {
        TramLines x = new TramLines();
        for (int trip = 0; trip < 28; trip++) {
            x.addTrip(0, 11, trip);
        }
        dueRefused(x, "0-11@5;0-11@6;0-11@7;");
        type(x, "0-11@5;0-11@6;");
        Check.due("just thirty", x.readTrips(), 2);
        dueRefused(x, "0-11@5;");
        type(x, "0-11@5");
        Check.badArgument("a fault first", x::readTrips);
        Check.due("its position", x.faultPosition(), 6);
    }

    private static void latestText() {
        TramLines x = new TramLines();
        type(x, "0-11@5;x");
        Check.due("not yet read", x.faultPosition(), -1);
        Check.badArgument("a fault", x::readTrips);
        Check.due("at the end", x.faultPosition(), 7);
        type(x, "0-11@5;");
        Check.due("still that of the latest one", x.faultPosition(), 7);
        Check.due("read", x.readTrips(), 1);
        Check.due("without a fault", x.faultPosition(), -1);
    }

    /** Each successful call of a change is one that can be undone. */
    private static void changes() {
        TramLines x = new TramLines();
        x.addTrip(0, 11, 0);
        x.addTrip(11, 0, 40);
        x.addTrip(0, 11, 80);
        x.addVehicle(0);
        x.addVehicle(0);
        x.setTurn(5, true);
        x.save();
        Runnable[] changes = {
            () -> x.setSection(0, 3, 0), () -> x.setTurn(5, true), () -> x.set(1, 4), () -> x.addTrip(0, 11, 5),
            () -> x.cancel(0, false), () -> x.addVehicle(1), () -> x.give(0, 0), () -> x.giveRound(0, 1, 0),
            () -> x.exchange(0, 1, 0), () -> x.block(0, 0, 0), () -> x.turnShort(0, 5), () -> x.startLate(0, 5),
            () -> x.relink(),
        };
        for (int number = 0; number < changes.length; number++) {
            x.restore();
            String before = picture(x);
            changes[number].run();
            Check.due("change " + number, x.undo(), 0);
            Check.dueText("undone " + number, picture(x), before);
            Check.badState("one alone " + number, x::undo);
        }
        x.restore();
        x.give(0, 0);
        x.take(0);
        x.block(0, 0, 0);
        x.unblock(0);
        type(x, "0-11@5;11-0@6;");
        x.readTrips();
        Check.due("with both trips", x.count(0), 5);
        Check.due("readTrips", x.undo(), 4);
        Check.due("without both trips", x.count(0), 3);
        Check.due("unblock", x.undo(), 3);
        Check.due("the block again", x.count(5), 1);
        Check.due("block", x.undo(), 2);
        Check.due("take", x.undo(), 1);
        Check.due("the trip again", x.count(2), 1);
        Check.due("give", x.undo(), 0);
    }

    /** Queries, refused calls, append, save and undo are no changes. */
    private static void noChanges() {
        TramLines x = new TramLines();
        x.addTrip(0, 11, 0);
        x.addVehicle(1);
        picture(x);
        x.append('x');
        x.save();
        x.wouldRefuse(0, 0);
        x.leastVehicles(true);
        x.leastVehicles(false);
        x.leastCost(5);
        Check.badArgument("readTrips", x::readTrips);
        Check.notSupported("give", () -> x.give(0, 0));
        Check.notSupported("giveRound", () -> x.giveRound(0, 0, 0));
        Check.badArgument("set", () -> x.set(0, 21));
        Check.badArgument("turnShort", () -> x.turnShort(0, 5));
        Check.badArgument("addTrip", () -> x.addTrip(0, 0, 0));
        Check.noElement("take", () -> x.take(0));
        Check.noSuchIndex("unblock", () -> x.unblock(0));
        Check.due("two changes", x.undo(), 1);
        Check.due("one change", x.undo(), 0);
        Check.badState("no change", x::undo);
        Check.badState("no change again", x::undo);
    }

    /** All that can be asked for of a line, as one text. */
    private static String picture(TramLines x) {
        StringBuilder text = new StringBuilder();
        for (int what = 0; what <= 6; what++) {
            text.append(x.count(what)).append(' ').append(x.run(what)).append(' ');
        }
        for (int trip = 0; trip < x.count(0); trip++) {
            for (int what = 0; what <= 6; what++) {
                text.append(x.trip(trip, what)).append(' ');
            }
        }
        for (int vehicle = 0; vehicle < x.count(3); vehicle++) {
            for (int what = 0; what <= 6; what++) {
                text.append(x.vehicle(vehicle, what)).append(' ');
            }
        }
        return text.toString();
    }

    private static void undone() {
        TramLines x = new TramLines();
        x.addTrip(0, 11, 0);
        x.addVehicle(0);
        x.give(0, 0);
        x.setSection(3, 5, 7);
        x.set(0, 9);
        x.set(1, 8);
        x.set(2, 7);
        x.setTurn(6, true);
        String before = picture(x);
        x.turnShort(0, 6);
        x.block(3, 0, 20);
        x.setTurn(2, true);
        x.cancel(0, true);
        Check.due("cancel", x.undo(), 7);
        Check.due("active again", x.count(1), 1);
        Check.due("in its duty again", x.trip(0, 6), 0);
        x.undo();
        x.undo();
        x.undo();
        Check.dueText("as before", picture(x), before);
        Check.due("setTurn", x.undo(), 3);
        Check.due("turns", x.count(6), 2);
        x.undo();
        Check.due("gap", x.set(2, 7), 1);
        x.undo();
        x.undo();
        Check.due("least headway", x.set(1, 8), 4);
        x.undo();
        x.undo();
        Check.due("turn time", x.set(0, 3), 2);
    }

    private static void depthOfUndo() {
        TramLines x = new TramLines();
        for (int trip = 0; trip < 11; trip++) {
            x.addTrip(0, 11, trip);
        }
        for (int left = 7; left >= 0; left--) {
            Check.due("undo", x.undo(), left);
            Check.due("trips", x.count(0), left + 3);
        }
        Check.badState("a ninth one", x::undo);
        Check.due("three are left", x.count(0), 3);
        x.addTrip(0, 11, 50);
        x.addTrip(0, 11, 51);
        Check.due("of two", x.undo(), 1);
        x.addTrip(0, 11, 52);
        Check.due("of two again", x.undo(), 1);
        Check.due("and the first of them", x.undo(), 0);
        Check.due("three again", x.count(0), 3);
        for (int change = 0; change < 20; change++) {
            x.set(0, change);
        }
        Check.due("the latest eight", x.undo(), 7);
        Check.due("before the latest one", x.set(0, 0), 18);
    }

    private static void snapshots() {
        TramLines x = new TramLines();
        Check.badState("no snapshot", x::restore);
        x.addTrip(0, 11, 0);
        x.addVehicle(0);
        x.give(0, 0);
        x.block(1, 2, 3);
        String saved = picture(x);
        x.save();
        x.cancel(0, true);
        x.unblock(0);
        x.setSection(1, 8, 0);
        x.setTurn(3, true);
        x.addVehicle(1);
        x.restore();
        Check.dueText("restored", picture(x), saved);
        x.addTrip(11, 0, 40);
        x.give(1, 0);
        x.restore();
        Check.dueText("the snapshot is kept", picture(x), saved);
        Check.due("its sections", x.setSection(1, 4, 0), 30);
        String later = picture(x);
        x.save();
        x.relink();
        x.set(2, 9);
        x.restore();
        Check.dueText("in place of the earlier one", picture(x), later);
    }

    private static void undoAndSnapshots() {
        TramLines x = new TramLines();
        x.addTrip(0, 11, 0);
        x.addTrip(0, 11, 1);
        x.save();
        Check.due("save keeps the changes", x.undo(), 1);
        Check.due("undo", x.count(0), 1);
        x.restore();
        Check.due("restore", x.count(0), 2);
        Check.badState("restore forgets the changes", x::undo);
        x.addTrip(0, 11, 2);
        Check.due("a change behind it", x.undo(), 0);
        Check.due("as restored", x.count(0), 2);
        Check.badState("no more", x::undo);
    }

    private static void textsAreNotOfTheLine() {
        TramLines x = new TramLines();
        x.save();
        type(x, "0-11");
        x.restore();
        type(x, "@5;");
        Check.due("the buffer stays", x.readTrips(), 1);
        x.addTrip(0, 11, 7);
        type(x, "0-11@");
        x.undo();
        type(x, "8");
        Check.badArgument("not at its end", x::readTrips);
        Check.due("its fault", x.faultPosition(), 6);
        x.undo();
        Check.due("the fault position stays", x.faultPosition(), 6);
        x.restore();
        Check.due("and stays", x.faultPosition(), 6);
    }
}
