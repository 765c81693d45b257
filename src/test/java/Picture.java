/** All that an object answers without changing, as one text. */
final class Picture {
    private static final int MOST_VALUE = 82;
    private static final int MOST_CHUNK = 401;

    private Picture() {
    }

    static String of(CountedObjects x) {
        StringBuilder text = new StringBuilder();
        for (int r = 0; r < 8; r++) {
            text.append(x.register(r)).append(' ');
        }
        for (int o = -2; o <= MOST_VALUE; o++) {
            if (x.exists(o)) {
                appendObject(text, x, o);
            } else if (x.count(o) != 0 || x.address(o) != -1) {
                text.append(" no object, but told of: ").append(o);
            }
        }
        text.append("; chunks");
        for (int size = -1; size <= MOST_CHUNK; size++) {
            if (x.chunks(size) != 0) {
                text.append(' ').append(x.chunks(size)).append('*').append(size);
            }
        }
        text.append("; free ").append(x.free()).append(", objects ").append(x.objects());
        return text.toString();
    }

    private static void appendObject(StringBuilder text, CountedObjects x, int o) {
        text.append("; ").append(o).append(" at ").append(x.address(o));
        text.append(" count ").append(x.count(o)).append(" class ").append(x.type(o)).append(" (");
        for (int k = 0; k < x.fields(o); k++) {
            text.append(k == 0 ? "" : " ").append(x.fetch(o, k));
        }
        text.append(')');
    }
}
