import java.util.LinkedHashMap;
import java.util.List;
import java.util.Map;

/** The codes below 0 that each call of the document answers, the one that it lists first ahead. */
final class Codes {
    static final List<String> CONSTANTS =
        List.of("INVALID_ARGUMENT -1", "ILLEGAL_STATE -2", "CAPACITY_EXCEEDED -3", "NONE -9");

    private static final String TOLD = """
        cut -1 -3
        spoil -1 -2
        grind -1 -2
        addShield -1 -3
        takeOff -1 -2
        append -1 -3
        clearText
        order -1 -2 -3
        hurry -1 -2
        cancel -1
        work -1
        slip -2
        undo -2
        count -1 -9
        plate -1 -9
        shield -1 -9
        plateFor -1 -9
        orderOf -1
        letter -1 -9
        lengthOf -1
        plateFound -1 -2 -9
        doneIn -1 -9
        moved -1 -2 -9
        largestSize -1 -2 -9
        """;

    private Codes() {
    }

    static Map<String, List<Integer>> ofCalls() {
        Map<String, List<Integer>> codes = new LinkedHashMap<>();
        for (String line : TOLD.lines().toList()) {
            List<String> words = List.of(line.split(" "));
            codes.put(words.get(0), words.subList(1, words.size()).stream().map(Integer::valueOf).toList());
        }
        return codes;
    }
}
