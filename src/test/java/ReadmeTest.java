/** The example of README.md: its calls in their order, with the answers that stand behind them there. */
public final class ReadmeTest {

    public static void main(String[] args) {
        TramLines line = new TramLines();
        delaysOfARound(line);
        refusedTrip(line);
        textAndSnapshot(line);
        Check.finish();
    }

    private static void delaysOfARound(TramLines line) {
        Check.due("addTrip(0, 11, 600)", line.addTrip(0, 11, 600), 0);
        Check.due("addTrip(11, 0, 640)", line.addTrip(11, 0, 640), 1);
        Check.due("addVehicle(0)", line.addVehicle(0), 0);
        Check.due("giveRound(0, 1, 0)", line.giveRound(0, 1, 0), 0);
        Check.due("block(5, 610, 620)", line.block(5, 610, 620), 0);
        Check.due("when the tram comes to stop 5", line.actual(0, 5, false), 615);
        Check.due("when it leaves it", line.actual(0, 5, true), 621);
        Check.due("delay(0)", line.delay(0), 6);
        Check.due("when it comes to stop 11", line.actual(0, 11, false), 639);
        Check.due("delay(1)", line.delay(1), 1);
        Check.due("undo()", line.undo(), 4);
        Check.due("the blocks", line.count(5), 0);
        Check.due("delay(0) without the block", line.delay(0), 0);
    }

    private static void refusedTrip(TramLines line) {
        Check.due("wouldRefuse(0, 0)", line.wouldRefuse(0, 0), 2);
        Check.notSupported("give(0, 0)", () -> line.give(0, 0));
        Check.due("refusal()", line.refusal(), 2);
    }

    private static void textAndSnapshot(TramLines line) {
        line.save();
        for (char c : "0-11@700;11-0@740;".toCharArray()) {
            line.append(c);
        }
        Check.due("readTrips()", line.readTrips(), 2);
        Check.due("relink()", line.relink(), 0);
        Check.due("leastVehicles(false)", line.leastVehicles(false), 1);
        line.restore();
        Check.due("count(0)", line.count(0), 2);
    }
}
