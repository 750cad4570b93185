/** Calls that tests make together. */
final class Calls {
    private Calls() {
    }

    static void type(TenantCensus x, String text) {
        for (int index = 0; index < text.length(); index++) {
            x.type(text.charAt(index));
        }
    }

    static int run(TenantCensus x, String text) {
        type(x, text);
        return x.run();
    }

    /** The output line, read until charAt throws. */
    static String line(TenantCensus x) {
        StringBuilder text = new StringBuilder();
        while (true) {
            try {
                text.append(x.charAt(text.length()));
            } catch (IndexOutOfBoundsException e) {
                return text.toString();
            }
        }
    }
}
