/** What can be asked for of a line, as one text, so that two lines can be compared. */
final class Picture {

    private Picture() {
    }

    /** All but the reason and the fault position; changes nothing. */
    static String ofLine(TramLines x) {
        StringBuilder text = new StringBuilder();
        for (int what = 0; what <= 6; what++) {
            text.append(x.count(what)).append(' ').append(x.run(what)).append(' ');
        }
        for (int trip = 0; trip < x.count(0); trip++) {
            text.append("\ntrip ");
            for (int what = 0; what <= 6; what++) {
                text.append(x.trip(trip, what)).append(' ');
            }
        }
        for (int vehicle = 0; vehicle < x.count(3); vehicle++) {
            text.append("\nvehicle ");
            for (int what = 0; what <= 6; what++) {
                text.append(x.vehicle(vehicle, what)).append(' ');
            }
        }
        return text.toString();
    }

    /** The same with the reason and the fault position. */
    static String of(TramLines x) {
        String reason = "none";
        try {
            reason = "" + x.refusal();
        } catch (java.util.NoSuchElementException e) {
            // None was refused.
        }
        return ofLine(x) + "\nreason " + reason + "\nfault " + x.faultPosition();
    }

    /** What only changes tell: settings, sections, turns, blocks and the text buffer; the line is not as before then. */
    static String byChanges(TramLines x) {
        StringBuilder text = new StringBuilder();
        for (int vehicle = 0; vehicle < x.count(3); vehicle++) {
            while (x.vehicle(vehicle, 1) > 0) {
                text.append(x.take(vehicle)).append(' ');
            }
        }
        text.append("\nsettings ").append(x.set(0, 2)).append(' ').append(x.set(1, 4)).append(' ').append(x.set(2, 1));
        text.append("\nsections ");
        for (int section = 0; section <= 10; section++) {
            text.append(x.setSection(section, 3, 0)).append(' ');
        }
        text.append("\nturns ");
        for (int stop = 1; stop <= 10; stop++) {
            text.append(x.setTurn(stop, true)).append(' ');
        }
        text.append("\nblocks ");
        while (x.count(5) > 0) {
            text.append(x.unblock(0)).append(' ');
        }
        String read;
        try {
            read = "" + x.readTrips();
        } catch (RuntimeException e) {
            read = e.getClass().getName();
        }
        return text.append("\nread ").append(read).append(' ').append(x.faultPosition()).toString();
    }
}
