import java.nio.ByteBuffer;
import java.nio.charset.StandardCharsets;
import java.util.NoSuchElementException;

/** What the tests share: calls with their outcome, and texts put on the tape. */
final class Calls {
    static final long NO_SUCH = Long.MAX_VALUE;
    static final long ILLEGAL = Long.MAX_VALUE - 1;

    interface Call {
        long answer();
    }

    /** The answer, or which exception the call throws; any other one goes on its way. */
    static long outcome(Call call) {
        try {
            return call.answer();
        } catch (NoSuchElementException e) {
            return NO_SUCH;
        } catch (IllegalArgumentException e) {
            return ILLEGAL;
        }
    }

    static String told(long outcome) {
        if (outcome == NO_SUCH) return "throws.NoSuchElementException";
        if (outcome == ILLEGAL) return "throws.IllegalArgumentException";
        return String.valueOf(outcome);
    }

    /** The text in numbers for feed(), five at a time, blanks behind it. */
    static int[] numbers(String text) {
        byte[] bytes = text.getBytes(StandardCharsets.ISO_8859_1);
        int rows = (bytes.length + 19) / 20;
        ByteBuffer all = ByteBuffer.allocate(rows * 20);
        all.put(bytes);
        while (all.hasRemaining()) all.put((byte) 32);
        int[] numbers = new int[rows * 5];
        for (int i = 0; i < numbers.length; i++) numbers[i] = all.getInt(i * 4);
        return numbers;
    }

    static int act(LandBonds x, int land, String text, int from, int to) {
        int[] n = numbers(text);
        for (int i = 0; i < n.length; i += 5) x.feed(n[i], n[i + 1], n[i + 2], n[i + 3], n[i + 4]);
        return x.act(land, text.length(), from, to);
    }

    /** Lands, places of land 0, 1 .. in turn, persons of sex 0, 1 .. in turn without parents. */
    static LandBonds desk(int lands, int places, int persons) {
        LandBonds x = new LandBonds();
        for (int i = 0; i < lands; i++) x.land();
        for (int i = 0; i < places; i++) x.place(i % lands);
        for (int i = 0; i < persons; i++) x.person(i % 2, -1, -1);
        return x;
    }
}
