import java.util.Map;
import java.util.TreeMap;

/**
 * All that can be read of a house, under keys such as "house", "price 0" (the current one), "settlement 0", "layer 5",
 * "status 1", "cash 1", "fund 1", "margin 1" (the requirement), "call 1" and "position 1 0" (member, then instrument).
 * It reaches one past the greatest indexes on both sides.
 */
final class State {
    private State() { }

    static Map<String, Long> of(ClearingHouse house) {
        Map<String, Long> readings = new TreeMap<>();
        readings.put("house", house.getHouse());
        for (int i = -1; i <= 4; i++) {
            readings.put("price " + i, (long) house.getPrice(i, ClearingHouse.CURRENT));
            readings.put("settlement " + i, (long) house.getPrice(i, ClearingHouse.SETTLEMENT));
        }
        for (int layer = -1; layer <= 7; layer++) {
            readings.put("layer " + layer, house.getWaterfall(layer));
        }
        for (int m = -1; m <= 8; m++) {
            addMember(readings, house, m);
        }
        return readings;
    }

    private static void addMember(Map<String, Long> readings, ClearingHouse house, int m) {
        readings.put("status " + m, (long) house.getStatus(m));
        readings.put("cash " + m, house.getBalance(m, ClearingHouse.CASH));
        readings.put("fund " + m, house.getBalance(m, ClearingHouse.FUND));
        readings.put("margin " + m, house.getMargin(m, ClearingHouse.REQUIREMENT));
        readings.put("call " + m, house.getMargin(m, ClearingHouse.CALL));
        for (int i = -1; i <= 4; i++) {
            readings.put("position " + m + " " + i, (long) house.getPosition(m, i));
        }
    }
}
