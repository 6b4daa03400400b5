/** Edges of the promises 58 and 59: image, back. */
final class EdgesImage {
    private static final int NONE = Due.NONE;

    /** Tells and does something of every kind. */
    private static void stir(StairRods x, int kind) {
        x.lodger(1 + kind, 1 + kind);
        x.lodger(8 - kind, 12 - kind);
        Due.text(x, "ticks weight+" + kind + ";hears " + kind + ";hang 1;");
        x.by(x.about(1) - 1);
        x.hour(3 + kind);
        x.tread(0, x.of(0, 2) < 6, 1);
        x.hang(2 + kind, false);
        x.nights(kind, 5);
        x.print(0, 2 << kind);
        x.change(0, kind % 3, 2 + kind);
        x.sound(kind % 3, 0, 3 + kind);
        x.listen(kind % 3);
        x.code(kind % 2 == 0 ? 12 : 1);
        x.heavy(kind % 2, 5 + kind);
        x.said(0, 1, 4 + kind);
        Due.text(x, kind % 2 == 0 ? "?" : " hang 0;");
        x.feed(kind, 0, 0, 0, 0);
    }

    static void promise58_theHourIsAnswered(Due d) {
        d.is("image() of a new object", new StairRods().image(), 0);
        d.is("image() at 9999", Houses.atHour(9999).image(), 9999);
    }

    static void promise58_changesNothing(Due d) {
        StairRods x = new StairRods();
        stir(x, 1);
        String before = Seen.all(x);
        d.is("image()", x.image(), x.is(0));
        d.same("nothing changes", before, Seen.all(x));
    }

    static void promise58_theLatestImageCounts(Due d) {
        StairRods x = new StairRods();
        stir(x, 1);
        x.image();
        stir(x, 2);
        x.image();
        String second = Seen.ofImage(x);
        stir(x, 3);
        x.back();
        d.same("the second", second, Seen.ofImage(x));
    }

    static void promise58_isNoStep(Due d) {
        StairRods x = new StairRods();
        x.hang(1, false);
        x.image();
        d.is("about(3)", x.about(3), 1);
        d.is("undo()", x.undo(), 0);
        d.is("is(3)", x.is(3), 8190);
    }

    static void promise59_withoutAnImageToldItIsTheNewObject(Due d) {
        StairRods x = new StairRods();
        String fresh = Seen.ofImage(x);
        d.is("back() at once", x.back(), 0);
        d.same("a new object", fresh, Seen.ofImage(x));
        stir(x, 1);
        d.is("back()", x.back(), 0);
        d.same("a new object", fresh, Seen.ofImage(x));
    }

    static void promise59_theHourIsThatOfTheImage(Due d) {
        StairRods x = Houses.atHour(9999);
        x.image();
        x.undo();
        x.undo();
        d.is("is(0)", x.is(0), 9997);
        d.is("back()", x.back(), 9999);
        d.is("hour(1)", x.hour(1), NONE);
    }

    static void promise59_theImageStays(Due d) {
        StairRods x = new StairRods();
        stir(x, 1);
        x.image();
        String image = Seen.ofImage(x);
        for (int kind = 2; kind <= 4; kind++) {
            stir(x, kind);
            x.back();
            d.same("as the image", image, Seen.ofImage(x));
        }
    }

    static void promise59_isNoStep(Due d) {
        StairRods x = new StairRods();
        x.hang(1, false);
        d.is("back()", x.back(), 0);
        d.is("about(3)", x.about(3), 0);
        d.is("undo()", x.undo(), NONE);
    }

    static void promise59_stepsOfTheImageCanBeTakenBack(Due d) {
        StairRods x = new StairRods();
        x.hour(45);
        x.image();
        x.hour(45);
        d.is("back()", x.back(), 45);
        for (int left = 29; left >= 0; left--) {
            d.is("undo()", x.undo(), left);
            d.is("is(0)", x.is(0), 15 + left);
        }
        d.is("undo()", x.undo(), NONE);
        d.is("back()", x.back(), 45);
        d.is("about(3)", x.about(3), 30);
    }

    static void promise59_lodgersToldSinceAreGone(Due d) {
        StairRods x = Houses.of(3);
        x.image();
        for (int i = 0; i < 5; i++) {
            x.lodger(9, 9);
        }
        x.print(1, 8190);
        x.tread(1, true, 3);
        x.back();
        d.is("about(0)", x.about(0), 1);
        d.is("of(1, 0)", x.of(1, 0), NONE);
        d.is("tread(1, true, 1)", x.tread(1, true, 1), NONE);
        d.is("lodger(4, 5)", x.lodger(4, 5), 1);
        int[] due = {4, 5, 0, 0, 0};
        for (int what = 0; what < 5; what++) {
            d.is("of(1, " + what + ")", x.of(1, what), due[what]);
        }
    }

    static void promise59_textsToldSinceAreGone(Due d) {
        StairRods x = new StairRods();
        Due.text(x, "hears 11;");
        x.image();
        for (int i = 0; i < 3; i++) {
            Due.text(x, "hears 22;");
        }
        x.by(3);
        x.back();
        d.is("about(1)", x.about(1), 1);
        d.is("about(2)", x.about(2), NONE);
        d.each("by(_)", Due.from(1, 4), t -> x.by(t) ? 1 : 0, 0);
        d.each("played(_)", Due.from(1, 4), x::played, -2);
        d.is("by(0)", x.by(0), true);
        d.is("hears(1)", x.hears(1), 11);
        d.is("another second one", Due.text(x, "hears 33;"), 1);
        x.by(1);
        d.is("hears(1)", x.hears(1), 33);
        x.by(0);
        d.is("hears(1)", x.hears(1), 11);
    }
}
