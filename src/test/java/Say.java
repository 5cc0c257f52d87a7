/** Short ways to bring an object into a state. */
final class Say {
    private Say() {
    }

    static void text(ExitFlows x, String text) {
        for (int n = 0; n < text.length(); n++) {
            x.say(text.charAt(n));
        }
    }

    /** An object with these passages, told as on the pad, and these safe rooms, told by letters. */
    static ExitFlows plan(String passages, String safe) {
        ExitFlows x = new ExitFlows();
        text(x, passages);
        if (x.read() != passages.length() / 4) {
            throw new IllegalStateException("the passages of a test are not as told: " + passages);
        }
        for (int n = 0; n < safe.length(); n++) {
            x.safe(safe.charAt(n) - 'a', 1);
        }
        return x;
    }

    /** All that can be told of an object without a search: what a refused call must leave as it is. */
    static String state(ExitFlows x) {
        StringBuilder all = new StringBuilder();
        for (int room = 0; room < 6; room++) {
            for (int what = 0; what < 5; what++) {
                all.append(x.told(room, what)).append(' ');
            }
        }
        for (int passage = 0; passage < 10; passage++) {
            for (int what = 0; what < 5; what++) {
                all.append(x.of(passage, what)).append(' ');
            }
        }
        for (int what = 0; what < 6; what++) {
            all.append(x.count(what)).append(' ');
        }
        return all.append(x.fault()).toString();
    }

    /** What the searching calls answer. */
    static String answers(ExitFlows x) {
        StringBuilder all = new StringBuilder();
        for (int tick = 0; tick <= 60; tick += 4) {
            all.append(x.out(tick)).append(' ').append(x.rush(tick)).append(' ');
        }
        for (int passage = 0; passage < x.count(1); passage++) {
            all.append(x.door(passage)).append(' ');
        }
        all.append(x.last()).append(' ').append(x.helps()).append(' ').append(x.needed()).append(' ');
        return all.append(x.rushed()).toString();
    }

    /** What an image keeps, told by bringing it back. */
    static String restored(ExitFlows x, int k) {
        return x.restore(k) + " " + state(x) + " " + answers(x);
    }
}
