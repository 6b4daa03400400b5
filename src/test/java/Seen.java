/** All that can be seen of an object by some seventy calls, to tell whether anything has changed. */
final class Seen {
    private final StringBuilder all = new StringBuilder();

    private Seen(StairRods x, boolean tape) {
        for (int what = 0; what <= (tape ? 7 : 6); what++) {
            put("about(" + what + ")", x.about(what));
        }
        for (int what = 0; what <= 3; what++) {
            put("is(" + what + ")", x.is(what));
        }
        for (int lodger = 0; lodger < x.about(0); lodger++) {
            for (int what = 0; what <= 4; what++) {
                put("of(" + lodger + ", " + what + ")", x.of(lodger, what));
            }
        }
        int lines = x.book(-1, 0);
        put("book(NONE, 0)", lines);
        for (int i = 0; i < lines; i += Math.max(1, lines - 1)) {
            put("book(" + i + ", 2)", x.book(i, 2));
        }
        for (int stair = -1; stair <= 12; stair += 13) {
            put("ledger(" + stair + ")", x.ledger(stair));
        }
        put("pause()", x.pause());
        put("ticks(0, 1, true)", x.ticks(0, 1, true));
        put("hears(1)", x.hears(1));
        put("weighed()", x.weighed());
        for (int sound = 0; sound <= 2; sound++) {
            put("next(" + sound + ", false)", x.next(sound, false));
            put("next(" + sound + ", true)", x.next(sound, true));
        }
        put("room(false)", x.room(false));
        put("room(true)", x.room(true));
        for (int message : new int[] {1, 2, 12, 22}) {
            put("reads(" + message + ")", x.reads(message));
        }
        put("cheapest(6)", x.cheapest(6));
        put("cheapest(2)", x.cheapest(2));
        put("whose()", x.whose());
        if (tape) {
            put("fault(0)", x.fault(0));
            put("fault(1)", x.fault(1));
        }
    }

    static String all(StairRods x) {
        return new Seen(x, true).all.toString();
    }

    /** The same, the tape and the latest FAULT aside. */
    static String ofImage(StairRods x) {
        return new Seen(x, false).all.toString();
    }

    private void put(String call, long answer) {
        all.append(call).append(' ').append(answer).append('\n');
    }
}
