/** Short ways to bring an object into a state. */
final class Say {
    private Say() {
    }

    static void text(ExitFlows x, String text) {
        for (int n = 0; n < text.length(); n++) {
            x.say(text.charAt(n));
        }
    }

    /** An object with these passages, told as on the pad, and these safe rooms, told by letters. */
    static ExitFlows plan(String passages, String safe) {
        ExitFlows x = new ExitFlows();
        text(x, passages);
        if (x.read() != passages.length() / 4) {
            throw new IllegalStateException("the passages of a test are not as told: " + passages);
        }
        for (int n = 0; n < safe.length(); n++) {
            x.safe(safe.charAt(n) - 'a', 1);
        }
        return x;
    }

    /** All that can be told of an object without a search: what a refused call must leave as it is. */
    static String state(ExitFlows x) {
        StringBuilder all = new StringBuilder();
        for (int room = 0; room < 6; room++) {
            for (int what = 0; what < 5; what++) {
                all.append(x.told(room, what)).append(' ');
            }
        }
        for (int passage = 0; passage < 10; passage++) {
            for (int what = 0; what < 5; what++) {
                all.append(x.of(passage, what)).append(' ');
            }
        }
        for (int what = 0; what < 6; what++) {
            all.append(x.count(what)).append(' ');
        }
        return all.append(x.fault()).toString();
    }
}
