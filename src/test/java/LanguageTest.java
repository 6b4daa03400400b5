import java.util.Random;

/** Many texts by chance (the same ones each time), each on a new object: faults, laws and plays as the Oracle has them. */
public final class LanguageTest {
    public static void main(String[] args) {
        int texts = args.length > 0 ? Integer.parseInt(args[0]) : 30000;
        Random random = new Random(7);
        TextMaker maker = new TextMaker(random);
        Due due = new Due();
        for (int i = 0; i < texts; i++) {
            compare(due, random, maker.text(), i);
        }
        due.finish("LanguageTest");
    }

    private static void compare(Due due, Random random, String signs, int i) {
        StairRods x = new StairRods();
        Oracle o = new Oracle();
        Due.onTape(x, signs);
        o.tape.append(signs);
        String name = "text " + i + " \"" + signs + "\": ";
        due.is(name + "text()", x.text(), o.text());
        due.is(name + "fault(0)", x.fault(0), o.fault(0));
        due.is(name + "fault(1)", x.fault(1), o.fault(1));
        due.is(name + "about(7)", x.about(7), 0);
        due.is(name + "by(0)", x.by(0), o.by(0));
        if (i % 2 == 0) {
            int weight = 1 + random.nextInt(9);
            int floor = 1 + random.nextInt(12);
            due.is(name + "lodger", x.lodger(weight, floor), o.lodger(weight, floor));
        }
        int seed = random.nextInt(10000);
        due.is(name + "nights", x.nights(seed, 40), o.nights(seed, 40));
        due.is(name + "played(0)", x.played(0), o.played(0));
        for (int stair = 0; stair <= 13; stair++) {
            due.is(name + "hears " + stair, x.hears(stair), o.hears(stair));
            for (int lodger = 0; lodger < 2; lodger++) {
                due.is(name + "ticks up " + stair, x.ticks(lodger, stair, true), o.ticks(lodger, stair, true));
                due.is(name + "ticks down " + stair, x.ticks(lodger, stair, false), o.ticks(lodger, stair, false));
            }
        }
        for (int what = 0; what < 4; what++) {
            due.is(name + "is " + what, x.is(what), o.is(what));
        }
        due.is(name + "book", x.book(-1, 0), o.book(-1, 0));
        due.is(name + "ledger", x.ledger(-1), o.ledger(-1));
        due.is(name + "about(3)", x.about(3), o.about(3));
    }
}
