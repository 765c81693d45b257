/** What an object answers without changing, as one text; some 200 calls for a small memory. */
final class Picture {
    private static final int MOST_VALUE = 80;
    private static final int MOST_WORDS = 400;

    private Picture() {
    }

    static String of(CountedObjects x) {
        StringBuilder text = new StringBuilder();
        for (int r = 0; r < 8; r++) {
            text.append(x.register(r)).append(' ');
        }
        for (int o = 2; o <= MOST_VALUE; o += 2) {
            if (x.exists(o)) {
                appendObject(text, x, o);
            }
        }
        text.append("; chunks");
        appendChunks(text, x);
        text.append("; free ").append(x.free()).append(", objects ").append(x.objects());
        return text.toString();
    }

    private static void appendObject(StringBuilder text, CountedObjects x, int o) {
        text.append("; ").append(o).append(" at ").append(x.address(o));
        text.append(" count ").append(x.count(o)).append(" class ").append(x.type(o)).append(" (");
        int fields = x.fields(o);
        for (int k = 0; k < fields; k++) {
            text.append(k == 0 ? "" : " ").append(x.fetch(o, k));
        }
        text.append(')');
    }

    private static void appendChunks(StringBuilder text, CountedObjects x) {
        int left = x.chunks(0);
        int wordsLeft = x.free();
        appendMany(text, left, 0);
        // The last one's size is known, so that a great chunk does not take a call for each lesser size.
        for (int size = 1; left > 1 && size <= MOST_WORDS; size++) {
            int many = x.chunks(size);
            appendMany(text, many, size);
            left -= many;
            wordsLeft -= many * size;
        }
        if (left == 1) {
            appendMany(text, x.chunks(wordsLeft), wordsLeft);
        }
    }

    private static void appendMany(StringBuilder text, int many, int size) {
        if (many != 0) {
            text.append(' ').append(many).append('*').append(size);
        }
    }
}
