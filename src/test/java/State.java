/** All that can be read of a house, as one text, so that two moments can be compared. */
final class State {
    private State() { }

    static String of(ClearingHouse house) {
        StringBuilder text = new StringBuilder("house " + house.getHouse());
        for (int i = -1; i <= 4; i++) {
            text.append("\n price ").append(i).append(": ").append(house.getPrice(i, ClearingHouse.CURRENT))
                .append(' ').append(house.getPrice(i, ClearingHouse.SETTLEMENT));
        }
        for (int m = -1; m <= 8; m++) {
            text.append("\n").append(ofMember(house, m));
        }
        text.append("\n waterfall");
        for (int layer = -1; layer <= 7; layer++) {
            text.append(' ').append(house.getWaterfall(layer));
        }
        return text.toString();
    }

    private static String ofMember(ClearingHouse house, int m) {
        StringBuilder text = new StringBuilder(" member " + m + ": status " + house.getStatus(m));
        text.append(" cash ").append(house.getBalance(m, ClearingHouse.CASH));
        text.append(" fund ").append(house.getBalance(m, ClearingHouse.FUND));
        text.append(" margin ").append(house.getMargin(m, ClearingHouse.REQUIREMENT));
        text.append(" call ").append(house.getMargin(m, ClearingHouse.CALL));
        text.append(" positions");
        for (int i = -1; i <= 4; i++) {
            text.append(' ').append(house.getPosition(m, i));
        }
        return text.toString();
    }
}
