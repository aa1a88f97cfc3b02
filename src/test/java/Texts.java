import java.util.ArrayList;
import java.util.List;

/** Texts as the numbers that feed takes, twenty bytes at a time. */
final class Texts {
    private Texts() {
    }

    static List<int[]> numbersOf(String text) {
        List<int[]> all = new ArrayList<>();
        for (int from = 0; from < text.length(); from += 20) {
            int[] five = new int[5];
            for (int i = from; i < Math.min(text.length(), from + 20); i++) {
                five[(i - from) / 4] |= (text.charAt(i) & 255) << 24 - 8 * ((i - from) % 4);
            }
            all.add(five);
        }
        return all;
    }

    /** The TAPE is this text then, if it is not too long. */
    static void tell(SeriesDesk desk, String text) {
        desk.end(0);
        for (int[] five : numbersOf(text)) {
            desk.feed(five[0], five[1], five[2], five[3], five[4]);
        }
    }
}
