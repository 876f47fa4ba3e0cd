/** A test for each promise of the document: ordinary inputs, the edges that it names, and wrong inputs. */
public final class PromiseTest extends Asking {
    public static void main(String[] args) {
        Runnable[] promises = {
            PromiseTest::newObject, PromiseTest::tie, PromiseTest::cut, PromiseTest::fast,
            PromiseTest::give, PromiseTest::storm, PromiseTest::belt, PromiseTest::set,
            PromiseTest::append, PromiseTest::clearBuffer, PromiseTest::firstError, PromiseTest::work,
            PromiseTest::stopped, PromiseTest::told, PromiseTest::undo, PromiseTest::keep,
            PromiseTest::restore, PromiseTest::letter, PromiseTest::knot, PromiseTest::name,
            PromiseTest::fisher, PromiseTest::drowned, PromiseTest::find, PromiseTest::count,
            PromiseTest::whyNot, PromiseTest::noGift, PromiseTest::ifStorm, PromiseTest::bestBelt,
            PromiseTest::trueShare, PromiseTest::digest};
        for (int number = 1; number <= promises.length; number++) {
            test("promise " + number, promises[number - 1]);
        }
        end();
    }

    // ---- the promises

    private static void newObject() {
        due("NONE", BeltKnots.NONE, -1);
        for (int f = 0; f < 5; f++) {
            due("fisher(f, 0)", x.fisher(f, 0), 60);
            due("fisher(f, 1)", x.fisher(f, 1), 0);
            due("fisher(f, 2)", x.fisher(f, 2), 60);
            due("fisher(f, 3)", x.fisher(f, 3), 0);
            due("fisher(f, 4)", x.fisher(f, 4), 0);
            due("the belt", toldWhole(f), "");
        }
        for (int what = 0; what <= 13; what++) {
            due("count(" + what + ")", x.count(what), what == 11 ? 3 : what == 12 ? 1 : 0);
        }
        due("stopped(0)", x.stopped(0), -1);
        due("stopped(1)", x.stopped(1), -1);
        due("clearBuffer()", x.clearBuffer(), 0);
        refused("undo()", STATE, x::undo);
        refused("restore()", STATE, x::restore);
    }

    private static void tie() {
        due("tie of anna", tied(0, "anna"), 0);
        due("the buffer", bufferLength(), 0);
        due("the next", tied(0, "a"), 1);
        due("the belt", toldWhole(0), "anna-a");
        due("left", x.fisher(0, 2), 60 - 28 - 5);
        due("another belt", tied(4, "anna"), 0);
        type("anna");
        refused("tie(-1)", INDEX, () -> x.tie(-1));
        refused("tie(5)", INDEX, () -> x.tie(5));
        refused("tie(0) of the same name", STATE, () -> x.tie(0));
        due("the buffer stays", bufferLength(), 4);
        for (String text : new String[] {"", "q", "aq", "Anna", "a-a", "abcdabcda", "tie0:a", "a;"}) {
            typeAnew(text);
            refused("tie(0) of '" + text + "'", ARGUMENT, () -> x.tie(0));
            refused("tie(9) of '" + text + "'", INDEX, () -> x.tie(9));
            due("the buffer stays", bufferLength(), text.length());
        }
        undone("tie", () -> tied(1, "aaaabbbb"));
        // eight of a: 8 * 3 + 2, and another b goes just on what is left of 30
        x.belt(2, 30);
        due("the longest name", tied(2, "aaaaaaaa"), 0);
        typeAnew("a");
        refused("tie(2), 5 into 4", STATE, () -> x.tie(2));
        x.belt(2, 31);
        due("just as much as is left", x.tie(2), 1);
        due("left", x.fisher(2, 2), 0);
        x.belt(3, 120);
        for (int n = 0; n < 6; n++) {
            due("name " + n, tied(3, "abcdef".substring(n, n + 1)), n);
        }
        typeAnew("g");
        refused("the seventh name", STATE, () -> x.tie(3));
        // knots are tied tight, also in the place of a name that was loose
        x = new BeltKnots();
        x.set(0, 1);
        x.belt(4, 120);
        for (String name : new String[] {"b", "c", "d", "f", "g", "oe"}) {
            tied(4, name);
        }
        x.storm(4);
        x.cut(4, 0);
        due("in its place", tied(4, "oe"), 5);
        due("tight", x.knot(4, 5, 0, 2), 0);
        due("the belt", toldWhole(4), "c-d-f-g-pf-oe");
        // a name that a knot has loosened into is the same name then
        x = new BeltKnots();
        x.set(0, 1);
        tied(0, "ac");
        x.storm(0);
        typeAnew("bc");
        refused("tie(0) of what ac reads as", STATE, () -> x.tie(0));
        due("what it was tied as", tied(0, "ac"), 1);
        due("the belt", toldWhole(0), "bc-ac");
    }

    private static void cut() {
        tied(0, "a");
        tied(0, "bb");
        tied(0, "c");
        refused("cut(-1, 0)", INDEX, () -> x.cut(-1, 0));
        refused("cut(5, 0)", INDEX, () -> x.cut(5, 0));
        refused("cut(0, 3)", INDEX, () -> x.cut(0, 3));
        refused("cut(0, -1)", INDEX, () -> x.cut(0, -1));
        refused("cut(1, 0)", INDEX, () -> x.cut(1, 0));
        x.set(0, 1);
        x.set(1, 0);
        tied(3, "aaaaa");
        stormy(3, 2);
        refused("cut(5, 0) with a list", INDEX, () -> x.cut(5, 0));
        refused("cut(5, 1) with a list", INDEX, () -> x.cut(5, 1));
        // back to before the name on belt 3
        x.undo();
        x.undo();
        x.undo();
        undone("cut", () -> x.cut(0, 0));
        due("cut(0, 1)", x.cut(0, 1), 10);
        due("the belt", toldWhole(0), "a-c");
        due("cut(0, 0)", x.cut(0, 0), 5);
        due("the belt", toldWhole(0), "c");
        due("left", x.fisher(0, 2), 53);
        due("names lost", x.count(7), 0);
        due("entries", x.count(6), 0);
        // what was loosened takes as much as it was tied with
        x.set(0, 1);
        tied(1, "ee");
        x.storm(1);
        due("cut of ff, tied as ee", x.cut(1, 0), 12);
    }

    private static void fast() {
        x.set(0, 1);
        x.set(1, 8);
        tied(0, "baeio");
        refused("fast(5, 0)", INDEX, () -> x.fast(5, 0));
        refused("fast(-1, 0)", INDEX, () -> x.fast(-1, 0));
        refused("fast(0, 1)", INDEX, () -> x.fast(0, 1));
        refused("fast(0, -1)", INDEX, () -> x.fast(0, -1));
        due("nothing loose", x.fast(0, 0), 0);
        x.storm(0);
        undone("fast", () -> x.fast(0, 0));
        due("cord", x.name(0, 0, 1), 32);
        due("four loose", x.fast(0, 0), 4);
        due("cord", x.name(0, 0, 1), 36);
        due("by what was tied", x.count(4), 36);
        due("the belt", toldWhole(0), "bbfjp");
        due("the letter as tied", x.knot(0, 0, 1, 0), 1);
        due("how often loosened", x.knot(0, 0, 1, 2), 0);
        x.storm(0);
        due("no vowels any more", toldWhole(0), "bbfjp");
        // a knot that reads as "?" stays as it is
        x = new BeltKnots();
        x.set(0, 2);
        x.set(1, 8);
        tied(0, "aa");
        x.storm(0);
        x.storm(0);
        x.storm(0);
        due("the belt", toldWhole(0), "?b");
        due("one of two", x.fast(0, 0), 1);
        due("the belt", toldWhole(0), "?b");
        due("still loosened", x.knot(0, 0, 0, 2), 2);
        due("still tied as", x.knot(0, 0, 0, 0), 0);
        due("tied as it read", x.knot(0, 0, 1, 0), 1);
        due("cord", x.name(0, 0, 1), 2 + 3 + 4);
        x.storm(0);
        due("the belt", toldWhole(0), "?b");
        x = new BeltKnots();
        x.set(0, 2);
        x.set(1, 8);
        tied(0, "aabbbc");
        stormy(0, 3);
        x.belt(0, x.name(0, 0, 1) + 1);
        due("the belt", toldWhole(0), "?bbbbc");
        due("only what is tightened takes more", x.fast(0, 0), 1);
        due("nothing left", x.fisher(0, 2), 0);
        due("again", x.fast(0, 0), 0);
        // too short a belt by 1
        x = new BeltKnots();
        x.set(0, 1);
        tied(0, "aeiod");
        x.storm(0);
        int takes = x.name(0, 0, 1);
        x.belt(0, takes + 3);
        refused("fast, 4 more into 3", STATE, () -> x.fast(0, 0));
        refused("fast(0, 1)", INDEX, () -> x.fast(0, 1));
        x.belt(0, takes + 4);
        due("fast, 4 more into 4", x.fast(0, 0), 4);
        due("left", x.fisher(0, 2), 0);
    }

    private static void give() {
        x.set(0, 1);
        tied(0, "ba");
        tied(0, "c");
        tied(1, "d");
        refused("give(-1, 0, 1)", INDEX, () -> x.give(-1, 0, 1));
        refused("give(5, 0, 1)", INDEX, () -> x.give(5, 0, 1));
        refused("give(0, 2, 1)", INDEX, () -> x.give(0, 2, 1));
        refused("give(0, -1, 1)", INDEX, () -> x.give(0, -1, 1));
        refused("give(0, 0, 5)", INDEX, () -> x.give(0, 0, 5));
        refused("give(0, 0, -1)", INDEX, () -> x.give(0, 0, -1));
        refused("give(2, 0, 2)", INDEX, () -> x.give(2, 0, 2));
        refused("give(0, 0, 0)", STATE, () -> x.give(0, 0, 0));
        x.storm(0);
        undone("give", () -> x.give(0, 0, 1));
        int tiedSoFar = x.count(9);
        due("give(0, 0, 1)", x.give(0, 0, 1), 1);
        due("the giver's belt", toldWhole(0), "c");
        due("the other belt", toldWhole(1), "d-bb");
        due("as tied", x.knot(1, 1, 1, 0), 1);
        due("tight", x.knot(1, 1, 1, 2), 0);
        due("cord of it now", x.name(1, 1, 1), 10);
        due("cord by names", x.count(2), 7 + 8 + 10);
        due("cord by what was tied", x.count(4), 7 + 8 + 10);
        due("given by 0", x.fisher(0, 4), 1);
        due("given by 1", x.fisher(1, 4), 0);
        due("given", x.count(8), 1);
        due("knots tied", x.count(9), tiedSoFar + 2);
        tied(2, "c");
        refused("give to one who has it", STATE, () -> x.give(0, 0, 2));
        // what drowns later drowned as it was given
        x.set(1, 0);
        tied(3, "ae");
        x.set(0, 9);
        stormy(3, 6);
        due("the belt", toldWhole(3), "af");
        x.set(0, 1);
        due("a given name", x.give(3, 0, 4), 0);
        x.storm(4);
        x.storm(4);
        typeAnew("ae");
        due("not as first tied on the other belt", x.find(), -1);
        typeAnew("af");
        due("as tied on this belt", x.find(), 0);
    }

    private static void storm() {
        refused("storm(-1)", INDEX, () -> x.storm(-1));
        refused("storm(5)", INDEX, () -> x.storm(5));
        tied(0, "aaaa");
        tied(1, "aaaa");
        undone("storm", () -> x.storm(0));
        due("storm 1", x.storm(0), 0);
        due("place 2 and 1 make 3", toldWhole(0), "abaa");
        due("another fisher", toldWhole(1), "aaaa");
        due("storm 2, of all", x.storm(1), 0);
        due("places 1 and 4", toldWhole(1), "baab");
        due("storm 3", x.storm(0), 0);
        due("place 3", toldWhole(0), "abba");
        due("storm 4: place 2 once more", x.storm(0), 0);
        due("the belt", toldWhole(0), "a?ba");
        due("storm 5: places 1 and 4 once more", x.storm(1), 1);
        due("storm 6: a second one", x.storm(0), 1);
        due("the belt", toldWhole(0), "");
        due("lost", x.fisher(0, 3), 1);
        due("entry", x.drowned(1, 2), 6);
        // only vowels are loosened, each of them
        x = new BeltKnots();
        x.belt(0, 120);
        x.set(0, 1);
        x.set(1, 8);
        tied(0, "abcdefgh");
        tied(0, "ijklmno");
        x.storm(0);
        due("the belt", toldWhole(0), "bbcdffgh-jjklmnp");
        x.storm(0);
        due("the belt", toldWhole(0), "?bcd?fgh-?jklmn?");
        x.storm(0);
        due("loosened three times", x.knot(0, 0, 0, 2), 3);
        x.set(1, 2);
        due("not more than setting 1", x.storm(0), 0);
        x.set(1, 1);
        due("more than setting 1", x.storm(0), 2);
        due("in the order of the belt", x.drowned(0, 3), 0);
        due("in the order of the belt", x.drowned(1, 3), 8);
        due("cord", x.count(2), 0);
        due("cord by what was tied", x.count(4), 0);
        // a name behind one that is lost stays
        x = new BeltKnots();
        x.set(0, 1);
        x.set(1, 0);
        tied(0, "d");
        tied(0, "a");
        tied(0, "b");
        tied(0, "e");
        x.storm(0);
        due("two of four", x.storm(0), 2);
        due("the belt", toldWhole(0), "d-b");
        due("a storm over an empty belt", x.storm(4), 0);
        due("storms", x.count(1), 3);
    }

    private static void belt() {
        tied(0, "anna");
        refused("belt(-1, 60)", INDEX, () -> x.belt(-1, 60));
        refused("belt(5, 60)", INDEX, () -> x.belt(5, 60));
        refused("belt(5, 5)", INDEX, () -> x.belt(5, 5));
        refused("belt(0, 19)", ARGUMENT, () -> x.belt(0, 19));
        refused("belt(0, 121)", ARGUMENT, () -> x.belt(0, 121));
        refused("belt(0, 27)", STATE, () -> x.belt(0, 27));
        undone("belt", () -> x.belt(0, 100));
        due("belt(0, 28)", x.belt(0, 28), 60);
        due("left", x.fisher(0, 2), 0);
        due("length", x.fisher(0, 0), 28);
        due("the belt", toldWhole(0), "anna");
        due("belt(0, 120)", x.belt(0, 120), 28);
        due("belt(1, 20)", x.belt(1, 20), 60);
        due("belt(1, 20) again", x.belt(1, 20), 20);
        due("left", x.fisher(0, 2), 92);
        // the names go with their knots, also loosened ones
        x.storm(0);
        x.storm(0);
        String text = toldWhole(0);
        x.belt(0, 50);
        due("the belt", toldWhole(0), text);
    }

    private static void set() {
        refused("set(-1, 1)", INDEX, () -> x.set(-1, 1));
        refused("set(2, 1)", INDEX, () -> x.set(2, 1));
        refused("set(2, 99)", INDEX, () -> x.set(2, 99));
        refused("set(0, 0)", ARGUMENT, () -> x.set(0, 0));
        refused("set(0, 10)", ARGUMENT, () -> x.set(0, 10));
        refused("set(1, -1)", ARGUMENT, () -> x.set(1, -1));
        refused("set(1, 9)", ARGUMENT, () -> x.set(1, 9));
        undone("set", () -> x.set(0, 5));
        undone("set, with no change", () -> x.set(1, 1));
        due("set(0, 1)", x.set(0, 1), 3);
        due("set(0, 9)", x.set(0, 9), 1);
        due("set(1, 0)", x.set(1, 0), 1);
        due("set(1, 8)", x.set(1, 8), 0);
        due("count(11)", x.count(11), 9);
        due("count(12)", x.count(12), 8);
    }

    private static void append() {
        refused("append(32)", ARGUMENT, () -> x.append(32));
        refused("append(127)", ARGUMENT, () -> x.append(127));
        refused("append(-1)", ARGUMENT, () -> x.append(-1));
        due("append(33)", x.append(33), 1);
        due("append(126)", x.append(126), 2);
        for (int n = 3; n <= 60; n++) {
            due("append", x.append('a'), n);
        }
        refused("the 61st", STATE, () -> x.append('a'));
        refused("the 61st, of no code", ARGUMENT, () -> x.append(32));
        due("not undoable", x.count(13), 0);
        due("the length", bufferLength(), 60);
    }

    private static void clearBuffer() {
        due("of an empty buffer", x.clearBuffer(), 0);
        type("xyz");
        due("of three", x.clearBuffer(), 3);
        due("again", x.clearBuffer(), 0);
        due("not undoable", x.count(13), 0);
        due("from the start", x.append('a'), 1);
    }

    private static void firstError() {
        Object[][] texts = {
            {"", 0}, {"x", 0}, {";", 0}, {"T", 0}, {"tie", 3}, {"ti0", 2}, {"tie5", 3}, {"tie4", 4},
            {"tie0/", 4}, {"tie0:", 5}, {"tie0:q", 5}, {"tie0:;", 5}, {"tie0:a", 6}, {"tie0:p", 6},
            {"tie0:abcdefgh", 13}, {"tie0:abcdefghi", 13}, {"tie0:abcdefgh;", 14}, {"tie0:a;a", 7},
            {"storm", 5}, {"storm4", 6}, {"storm5", 5}, {"storm00", 6}, {"storm0;", 7}, {"storm0;;", 7},
            {"storm0;storm1", 13}, {"stormy", 5}, {"give0/0>4", 9}, {"give0/6", 6}, {"give0/5>5", 8},
            {"give0>", 5}, {"give5", 4}, {"give0/0/", 7}, {"give0/0>0>", 9}, {"fast0/5", 7},
            {"fast0/6", 6}, {"fast0/0>", 7}, {"fast5", 4}, {"cut4/5;", 7}, {"cut0/6", 5}, {"cut5", 3},
            {"cut0/0;cut0/0;tie1:ab;give1/2>3;fast0/1;storm2;x", 47}};
        for (Object[] text : texts) {
            typeAnew((String) text[0]);
            due("firstError() of '" + text[0] + "'", x.firstError(), (Integer) text[1]);
        }
        // texts of any length count, so a full buffer is no error in itself
        typeAnew("storm0;storm0;storm0;storm0;storm0;storm0;storm0;storm0;tie0");
        due("firstError() of a full buffer", x.firstError(), 60);
        due("the buffer stays", bufferLength(), 60);
    }

    private static void work() {
        for (String text : new String[] {"", "tie0:", "storm0;", "storm", "give0/0", "give0/0>", "fast0/",
                "cut0", "x", "storm0;;storm0", "a", "tie0:abcdefghi"}) {
            typeAnew(text);
            refused("work() of '" + text + "'", ARGUMENT, x::work);
            due("the buffer stays", bufferLength(), text.length());
        }
        undone("work", () -> worked("tie0:a;tie0:b;storm0"));
        undone("work, nothing done", () -> worked("cut0/0"));
        due("two ties", worked("tie0:anna;tie4:p"), 2);
        due("the buffer", bufferLength(), 0);
        due("no stop", x.stopped(0), -1);
        due("belt 0", toldWhole(0), "anna");
        due("belt 4", toldWhole(4), "p");
        due("saved once", x.count(13), 1);
        due("all kinds", worked("storm0;storm0;fast0/0;give0/0>3;cut4/0;tie4:ab"), 6);
        due("belt 0", toldWhole(0), "");
        due("belt 3", toldWhole(3), "bnnb");
        due("tight", x.count(5), 0);
        due("belt 4", toldWhole(4), "ab");
        due("up to the stop", worked("tie1:c;cut2/0;tie1:d"), 1);
        due("belt 1", toldWhole(1), "c");
        due("stopped(0)", x.stopped(0), 1);
        due("stopped(1)", x.stopped(1), 6);
        due("the buffer", bufferLength(), 0);
        due("no stop then", worked("storm2"), 1);
        due("stopped(1)", x.stopped(1), -1);
        x = new BeltKnots();
        x.set(0, 1);
        due("three names", worked("tie0:b;tie0:ae;tie0:c;tie0:d;storm0"), 5);
        due("tightened", worked("fast0/1"), 1);
        due("tight", x.count(5), 0);
        due("as tied", x.knot(0, 1, 1, 0), 5);
        due("given and cut", worked("give0/2>3;cut0/1;give0/1>4"), 3);
        due("belt 0", toldWhole(0), "b");
        due("belt 3", toldWhole(3), "c");
        due("belt 4", toldWhole(4), "d");
        due("a storm for each letter", worked("tie2:abcdefgh;storm1;tie2:aa;storm2;fast2/1"), 5);
        due("belt 2", toldWhole(2), "bbcdffgh-bb");
        due("tightened", x.count(5), 2);
        x = new BeltKnots();
        due("eight storms", worked("storm0;storm0;storm0;storm0;storm0;storm0;storm0;storm0"), 8);
        due("storms", x.count(1), 8);
    }

    private static void stopped() {
        refused("stopped(-1)", ARGUMENT, () -> x.stopped(-1));
        refused("stopped(2)", ARGUMENT, () -> x.stopped(2));
        due("stopped(0)", x.stopped(0), -1);
        x.set(0, 1);
        x.set(1, 8);
        worked("tie0:a;tie0:b;tie0:c;tie0:d;tie0:e;tie0:f;tie0:g");
        due("part 6", x.stopped(0), 6);
        due("the belt is full", x.stopped(1), 1);
        worked("cut0/5;tie0:pppppppp");
        due("part 1", x.stopped(0), 1);
        due("too little left", x.stopped(1), 2);
        worked("tie0:e");
        due("part 0", x.stopped(0), 0);
        due("the same name", x.stopped(1), 3);
        worked("storm0;storm0;give0/0>1");
        due("part 2", x.stopped(0), 2);
        due("not readable", x.stopped(1), 4);
        worked("give0/1>0");
        due("the same fisher", x.stopped(1), 5);
        worked("give0/0>0");
        due("the same fisher ahead of all", x.stopped(1), 5);
        worked("give0/5>0");
        due("no such name ahead of that", x.stopped(1), 6);
        worked("fast3/0");
        due("no such name", x.stopped(1), 6);
        worked("tie1:b;give0/1>1");
        due("the other has it", x.stopped(1), 3);
        due("part 1", x.stopped(0), 1);
        tied(3, "aeiod");
        x.storm(3);
        x.belt(3, x.name(3, 0, 1));
        worked("fast3/0");
        due("cannot be tightened", x.stopped(1), 2);
        x.cut(3, 0);
        due("stays till the next work", x.stopped(1), 2);
        worked("storm4");
        due("none", x.stopped(0), -1);
        due("none", x.stopped(1), -1);
        x.undo();
        due("comes back by undo", x.stopped(1), 2);
    }

    private static void told() {
        refused("told(-1, 0)", INDEX, () -> x.told(-1, 0));
        refused("told(5, 0)", INDEX, () -> x.told(5, 0));
        refused("told(5, -1)", INDEX, () -> x.told(5, -1));
        refused("told(0, -1)", ARGUMENT, () -> x.told(0, -1));
        due("an empty belt", x.told(0, 0), -1);
        tied(0, "ap");
        tied(0, "c");
        due("told(0, 0)", x.told(0, 0), 'a');
        due("told(0, 1)", x.told(0, 1), 'p');
        due("told(0, 2)", x.told(0, 2), '-');
        due("told(0, 3)", x.told(0, 3), 'c');
        due("told(0, 4)", x.told(0, 4), -1);
        due("told(0, most)", x.told(0, Integer.MAX_VALUE), -1);
        x.set(0, 1);
        x.storm(0);
        due("loosened", toldWhole(0), "bp-c");
        x.storm(0);
        due("loosened twice", toldWhole(0), "?p-c");
    }

    private static void undo() {
        refused("undo()", STATE, x::undo);
        for (int n = 1; n <= 8; n++) {
            x.set(0, n);
        }
        due("at most six", x.count(13), 6);
        type("ab");
        for (int n = 5; n >= 0; n--) {
            due("undo()", x.undo(), n);
            due("setting 0", x.count(11), n + 2);
        }
        refused("undo() of a dropped one", STATE, x::undo);
        due("the buffer stays", bufferLength(), 2);
        // the list, the belts and the stop come back; the snapshot stays
        x.set(0, 1);
        x.set(1, 0);
        tied(0, "a");
        x.storm(0);
        x.storm(0);
        worked("cut0/0");
        x.keep();
        due("undo()", x.undo(), 5);
        due("no stop", x.stopped(0), -1);
        due("an entry", x.count(6), 1);
        due("undo()", x.undo(), 4);
        due("no entry", x.count(6), 0);
        due("the belt", toldWhole(0), "b");
        due("the snapshot", x.restore(), 0);
        due("an entry", x.count(6), 1);
        due("the stop", x.stopped(1), 6);
    }

    private static void keep() {
        due("keep()", x.keep(), 0);
        tied(0, "a");
        tied(1, "b");
        due("keep(), in place", x.keep(), 2);
        due("not undoable", x.count(13), 2);
        x.cut(0, 0);
        due("the later one", x.restore(), 2);
        x.undo();
        x.undo();
        x.undo();
        x.undo();
        due("the snapshot is no state", x.restore(), 2);
        due("belt 0", toldWhole(0), "a");
    }

    private static void restore() {
        refused("restore()", STATE, x::restore);
        tied(0, "anna");
        x.storm(0);
        x.keep();
        x.storm(0);
        x.cut(0, 0);
        tied(2, "d");
        type("xy");
        undone("restore", x::restore);
        due("one name then", x.restore(), 1);
        due("belt 0", toldWhole(0), "anna");
        due("belt 2", toldWhole(2), "");
        due("storms", x.count(1), 1);
        x.storm(0);
        type("xy");
        due("it stays", x.restore(), 1);
        due("storms", x.count(1), 1);
        due("the buffer stays", bufferLength(), 2);
        x.undo();
        due("undone", x.count(1), 2);
    }

    private static void letter() {
        refused("letter(-1, 0)", INDEX, () -> x.letter(-1, 0));
        refused("letter(16, 0)", INDEX, () -> x.letter(16, 0));
        refused("letter(16, 9)", INDEX, () -> x.letter(16, 9));
        refused("letter(0, -1)", ARGUMENT, () -> x.letter(0, -1));
        refused("letter(0, 6)", ARGUMENT, () -> x.letter(0, 6));
        int[] cord = {2, 3, 4, 5, 4, 5, 6, 7, 6, 7, 8, 9, 8, 9, 10, 11};
        for (int l = 0; l < 16; l++) {
            due("turns", x.letter(l, 0), "1111222233334444".charAt(l) - '0');
            due("loops", x.letter(l, 1), "0123012301230123".charAt(l) - '0');
            due("cord", x.letter(l, 2), cord[l]);
            due("vowel", x.letter(l, 3), "1000100010000010".charAt(l) - '0');
        }
        x.set(0, 1);
        x.set(1, 8);
        tied(0, "abba");
        tied(3, "a");
        x.storm(0);
        due("a as tied", x.letter(0, 4), 3);
        due("a as it reads", x.letter(0, 5), 1);
        due("b as tied", x.letter(1, 4), 2);
        due("b as it reads", x.letter(1, 5), 4);
        x.storm(0);
        due("b as it reads", x.letter(1, 5), 2);
        due("a as tied", x.letter(0, 4), 3);
    }

    private static void knot() {
        tied(1, "ao");
        refused("knot(-1, 0, 0, 0)", INDEX, () -> x.knot(-1, 0, 0, 0));
        refused("knot(5, 0, 0, 0)", INDEX, () -> x.knot(5, 0, 0, 0));
        refused("knot(1, 1, 0, 0)", INDEX, () -> x.knot(1, 1, 0, 0));
        refused("knot(1, -1, 9, 9)", INDEX, () -> x.knot(1, -1, 9, 9));
        refused("knot(1, 0, -1, 0)", ARGUMENT, () -> x.knot(1, 0, -1, 0));
        refused("knot(1, 0, 8, 0)", ARGUMENT, () -> x.knot(1, 0, 8, 0));
        refused("knot(1, 0, 0, -1)", ARGUMENT, () -> x.knot(1, 0, 0, -1));
        refused("knot(1, 0, 0, 3)", ARGUMENT, () -> x.knot(1, 0, 0, 3));
        refused("knot(1, 0, 7, 3)", ARGUMENT, () -> x.knot(1, 0, 7, 3));
        due("behind the name", x.knot(1, 0, 2, 0), -1);
        due("the last place", x.knot(1, 0, 7, 2), -1);
        x.set(0, 1);
        x.storm(1);
        due("tied as", x.knot(1, 0, 1, 0), 14);
        due("reads as", x.knot(1, 0, 1, 1), 15);
        due("loosened", x.knot(1, 0, 1, 2), 1);
        x.set(1, 8);
        x.storm(1);
        x.storm(1);
        due("tied as", x.knot(1, 0, 1, 0), 14);
        due("reads as", x.knot(1, 0, 1, 1), 16);
        due("loosened", x.knot(1, 0, 1, 2), 3);
    }

    private static void name() {
        tied(1, "anna");
        refused("name(-1, 0, 0)", INDEX, () -> x.name(-1, 0, 0));
        refused("name(5, 0, 9)", INDEX, () -> x.name(5, 0, 9));
        refused("name(1, 1, 0)", INDEX, () -> x.name(1, 1, 0));
        refused("name(1, -1, 0)", INDEX, () -> x.name(1, -1, 0));
        refused("name(0, 0, 0)", INDEX, () -> x.name(0, 0, 0));
        refused("name(1, 0, -1)", ARGUMENT, () -> x.name(1, 0, -1));
        refused("name(1, 0, 5)", ARGUMENT, () -> x.name(1, 0, 5));
        due("knots", x.name(1, 0, 0), 4);
        due("cord", x.name(1, 0, 1), 28);
        due("lost behind five storms", x.name(1, 0, 4), 5);
        stormy(1, 3);
        due("other letters", x.name(1, 0, 2), 2);
        due("unreadable", x.name(1, 0, 3), 0);
        due("lost behind two more", x.name(1, 0, 4), 2);
        x.set(0, 1);
        due("unreadable now", x.name(1, 0, 3), 0);
        x.set(0, 3);
        stormy(0, 1);
        due("storms to others count on", x.name(1, 0, 4), 1);
        stormy(0, 1);
        due("but do not loosen", x.name(1, 0, 4), 3);
        due("a name without vowels", tied(2, "bb"), 0);
        due("never lost", x.name(2, 0, 4), -1);
        x.set(1, 8);
        due("no more than 8 can be", x.name(1, 0, 4), -1);
        x.set(0, 1);
        due("behind so many as nine", x.ifStorm(1, 1), 2);
        stormy(1, 2);
        due("other letters or ?", x.name(1, 0, 2), 2);
        due("unreadable", x.name(1, 0, 3), 2);
        due("tightened: still so", x.fast(1, 0), 0);
        due("unreadable", x.name(1, 0, 3), 2);
        x.set(1, 0);
        due("behind one", x.name(1, 0, 4), 1);
        due("nothing is changed", x.count(1), 7);
        // one of the two steps of nine is the last of 18 storms
        x = new BeltKnots();
        x.set(0, 9);
        x.set(1, 0);
        tied(0, "a");
        due("storms 8 and 17", x.name(0, 0, 4), 17);
    }

    private static void fisher() {
        refused("fisher(-1, 0)", INDEX, () -> x.fisher(-1, 0));
        refused("fisher(5, 0)", INDEX, () -> x.fisher(5, 0));
        refused("fisher(5, 7)", INDEX, () -> x.fisher(5, 7));
        refused("fisher(0, -1)", ARGUMENT, () -> x.fisher(0, -1));
        refused("fisher(0, 5)", ARGUMENT, () -> x.fisher(0, 5));
        x.set(0, 1);
        x.set(1, 0);
        x.belt(2, 90);
        tied(2, "a");
        tied(2, "b");
        tied(2, "c");
        due("length", x.fisher(2, 0), 90);
        due("names", x.fisher(2, 1), 3);
        due("left", x.fisher(2, 2), 90 - 5 - 6 - 7);
        x.give(2, 1, 0);
        x.give(2, 1, 0);
        stormy(2, 2);
        due("lost", x.fisher(2, 3), 1);
        due("given away", x.fisher(2, 4), 2);
        due("lost by another", x.fisher(0, 3), 0);
        due("given by another", x.fisher(0, 4), 0);
        due("names", x.fisher(2, 1), 0);
        due("names of the other", x.fisher(0, 1), 2);
        due("left", x.fisher(2, 2), 90);
    }

    private static void drowned() {
        refused("drowned(-1, 0)", ARGUMENT, () -> x.drowned(-1, 0));
        refused("drowned(0, -1)", ARGUMENT, () -> x.drowned(0, -1));
        refused("drowned(0, 4)", ARGUMENT, () -> x.drowned(0, 4));
        refused("drowned(99, 4)", ARGUMENT, () -> x.drowned(99, 4));
        due("none", x.drowned(0, 0), -1);
        due("none", x.drowned(Integer.MAX_VALUE, 3), -1);
        x.set(0, 1);
        x.set(1, 0);
        tied(3, "eab");
        stormy(3, 2);
        due("knots", x.drowned(0, 0), 3);
        due("fisher", x.drowned(0, 1), 3);
        due("storm", x.drowned(0, 2), 2);
        due("first letter", x.drowned(0, 3), 4);
        due("no second one", x.drowned(1, 0), -1);
        // as it was tied first, ahead of any tightening
        x.set(0, 2);
        tied(0, "oa");
        stormy(0, 1);
        due("one knot tightened", x.fast(0, 0), 1);
        due("the belt", toldWhole(0), "pa");
        x.set(0, 1);
        stormy(0, 2);
        due("first letter", x.drowned(1, 3), 14);
        typeAnew("oa");
        due("the whole name", x.find(), 1);
        // at most twelve, the oldest dropped first
        x.set(0, 1);
        for (int n = 0; n < 12; n++) {
            tied(n % 5, n == 11 ? "i" : "a");
            stormy(n % 5, 2);
            due("entries", x.count(6), Math.min(12, 3 + n));
        }
        due("the oldest now", x.drowned(0, 0), 1);
        due("the oldest now", x.drowned(0, 2), 7);
        due("the latest", x.drowned(11, 2), 29);
        due("the latest", x.drowned(11, 3), 8);
        due("the latest", x.drowned(11, 1), 1);
        due("no thirteenth", x.drowned(12, 0), -1);
        due("lost so far", x.count(7), 14);
    }

    private static void find() {
        for (String text : new String[] {"", "q", "abcdabcda", "tie0:a", "a-a", "?"}) {
            typeAnew(text);
            refused("find() of '" + text + "'", ARGUMENT, x::find);
        }
        typeAnew("ab");
        due("an empty list", x.find(), -1);
        x.set(0, 1);
        x.set(1, 0);
        tied(0, "ab");
        tied(1, "abc");
        tied(2, "ab");
        stormy(0, 2);
        stormy(1, 2);
        typeAnew("ab");
        due("the first one", x.find(), 0);
        stormy(2, 2);
        due("the latest one", x.find(), 2);
        due("the buffer stays", bufferLength(), 2);
        typeAnew("abc");
        due("a longer one", x.find(), 1);
        typeAnew("a");
        due("a shorter one", x.find(), -1);
        typeAnew("bb");
        due("not as it read last", x.find(), -1);
        x.undo();
        typeAnew("ab");
        due("undone", x.find(), 0);
    }

    private static void count() {
        refused("count(-1)", ARGUMENT, () -> x.count(-1));
        refused("count(14)", ARGUMENT, () -> x.count(14));
        x.set(0, 1);
        x.set(1, 1);
        tied(0, "ac");
        tied(1, "bc");
        tied(2, "ap");
        due("names", x.count(0), 3);
        due("cord", x.count(2), 10 + 11 + 17);
        due("by letters", x.count(3), 38);
        due("by what was tied", x.count(4), 38);
        due("knots tied", x.count(9), 6);
        due("no shared names", x.count(10), 0);
        tied(3, "a");
        due("one begins as another", x.count(10), 0);
        x.undo();
        x.storm(0);
        due("shared as they read", x.count(10), 3);
        due("loosened", x.count(5), 1);
        tied(4, "bc");
        due("of three", x.count(10), 1 + 2 + 16);
        x.storm(2);
        x.storm(2);
        tied(3, "ap");
        due("not alike", x.count(10), 1 + 2 + 16);
        x.storm(3);
        x.storm(3);
        due("? is like ?", x.count(10), 31);
        due("loosened", x.count(5), 3);
        due("storms", x.count(1), 5);
        x.fast(0, 0);
        due("cord", x.count(2), 11 + 11 + 17 + 11 + 17);
        due("by letters", x.count(3), 67);
        due("by what was tied", x.count(4), 67);
        due("tightening ties nothing", x.count(9), 10);
        due("loosened", x.count(5), 2);
        x.set(1, 0);
        x.storm(3);
        due("entries", x.count(6), 1);
        due("lost", x.count(7), 1);
        due("cord", x.count(4), 50);
        x.cut(1, 0);
        x.cut(4, 0);
        due("cord", x.count(4), 28);
        x.give(0, 0, 1);
        due("given", x.count(8), 1);
        due("knots tied", x.count(9), 12);
        due("setting 0", x.count(11), 1);
        due("setting 1", x.count(12), 0);
        due("saved", x.count(13), 6);
    }

    private static void whyNot() {
        typeAnew("a");
        refused("whyNot(-1)", INDEX, () -> x.whyNot(-1));
        refused("whyNot(5)", INDEX, () -> x.whyNot(5));
        typeAnew("a;");
        refused("whyNot(5), no name", INDEX, () -> x.whyNot(5));
        refused("whyNot(0), no name", ARGUMENT, () -> x.whyNot(0));
        x.clearBuffer();
        refused("whyNot(0), no name", ARGUMENT, () -> x.whyNot(0));
        type("abcdabcda");
        refused("whyNot(0), nine letters", ARGUMENT, () -> x.whyNot(0));
        typeAnew("a");
        due("it can", x.whyNot(0), 0);
        due("nothing is tied", x.count(0), 0);
        tied(0, "anna");
        tied(0, "aann");
        type("anna");
        due("2 ahead of 3", x.whyNot(0), 2);
        x.belt(0, 84);
        due("just room", x.whyNot(0), 3);
        x.belt(0, 83);
        due("no room", x.whyNot(0), 2);
        x.belt(0, 120);
        for (String name : new String[] {"b", "c", "d", "a"}) {
            tied(0, name);
        }
        typeAnew("anna");
        due("1 ahead of all", x.whyNot(0), 1);
        typeAnew("p");
        due("full", x.whyNot(0), 1);
        due("another belt", x.whyNot(1), 0);
        due("the buffer stays", bufferLength(), 1);
    }

    private static void noGift() {
        x.set(0, 1);
        x.set(1, 8);
        tied(0, "ab");
        tied(0, "c");
        refused("noGift(-1, 0, 1)", INDEX, () -> x.noGift(-1, 0, 1));
        refused("noGift(5, 0, 1)", INDEX, () -> x.noGift(5, 0, 1));
        refused("noGift(0, 2, 1)", INDEX, () -> x.noGift(0, 2, 1));
        refused("noGift(0, -1, 0)", INDEX, () -> x.noGift(0, -1, 0));
        refused("noGift(0, 0, 5)", INDEX, () -> x.noGift(0, 0, 5));
        refused("noGift(0, 0, -1)", INDEX, () -> x.noGift(0, 0, -1));
        refused("noGift(3, 0, 3)", INDEX, () -> x.noGift(3, 0, 3));
        due("it can", x.noGift(0, 0, 1), 0);
        due("the same fisher", x.noGift(0, 0, 0), 5);
        x.storm(0);
        tied(1, "ab");
        due("as it reads now", x.noGift(0, 0, 1), 0);
        tied(1, "bb");
        due("the same name", x.noGift(0, 0, 1), 3);
        x.belt(1, 28);
        due("ten into nine", x.noGift(0, 0, 1), 2);
        x.belt(1, 60);
        for (String name : new String[] {"a", "b", "d", "e"}) {
            tied(1, name);
        }
        due("full", x.noGift(0, 0, 1), 1);
        x.storm(0);
        due("4 ahead of 1", x.noGift(0, 0, 1), 4);
        due("5 ahead of 4", x.noGift(0, 0, 0), 5);
        due("another name", x.noGift(0, 1, 2), 0);
        // what it would take there is as it reads, one more than it takes here
        x.belt(4, 20);
        x.belt(3, 60);
        tied(3, "kdo");
        due("takes 30", x.name(3, 0, 1), 8 + 5 + 10 + 5);
        x.belt(4, 28);
        due("28 into 28", x.noGift(3, 0, 4), 0);
        x.storm(3);
        due("29 into 28", x.noGift(3, 0, 4), 2);
        x.belt(4, 29);
        due("29 into 29", x.noGift(3, 0, 4), 0);
        due("nothing is given", x.count(8), 0);
    }

    private static void ifStorm() {
        refused("ifStorm(-1, 0)", INDEX, () -> x.ifStorm(-1, 0));
        refused("ifStorm(5, 0)", INDEX, () -> x.ifStorm(5, 0));
        refused("ifStorm(5, 2)", INDEX, () -> x.ifStorm(5, 2));
        refused("ifStorm(0, -1)", ARGUMENT, () -> x.ifStorm(0, -1));
        refused("ifStorm(0, 2)", ARGUMENT, () -> x.ifStorm(0, 2));
        tied(0, "aaaa");
        due("none lost", x.ifStorm(0, 0), 0);
        due("one loosened", x.ifStorm(0, 1), 1);
        x.storm(0);
        due("two loosened", x.ifStorm(0, 1), 2);
        x.set(0, 1);
        due("four", x.ifStorm(0, 1), 4);
        x.storm(0);
        due("the next takes it", x.ifStorm(0, 0), 1);
        due("knots of it count, too", x.ifStorm(0, 1), 4);
        due("nothing is changed", toldWhole(0), "b?bb");
        due("storms", x.count(1), 2);
        tied(0, "pe");
        due("five of two names", x.ifStorm(0, 1), 5);
        due("one of two names", x.ifStorm(0, 0), 1);
        due("storm(0)", x.storm(0), 1);
        due("an empty belt", x.ifStorm(4, 1), 0);
        x = new BeltKnots();
        x.set(0, 1);
        tied(0, "aac");
        x.set(1, 2);
        x.storm(0);
        due("as many as are borne", x.ifStorm(0, 0), 0);
        x.set(1, 1);
        due("one more", x.ifStorm(0, 0), 1);
        x = new BeltKnots();
        x.set(0, 1);
        tied(1, "aac");
        due("two storms would, one does not", x.ifStorm(1, 0), 0);
        x = new BeltKnots();
        tied(0, "aaaa");
        tied(0, "pe");
        x.cut(0, 0);
        stormy(0, 3);
        // what reads as "?" is loosened once more
        x.set(0, 1);
        x.set(1, 8);
        stormy(0, 3);
        due("again", x.ifStorm(0, 1), 1);
        x.set(0, 8);
        x.set(1, 0);
        due("lost without being loosened", x.ifStorm(0, 0), 1);
        due("none", x.ifStorm(0, 1), 0);
    }

    private static void bestBelt() {
        for (String text : new String[] {"", "q", "abcdabcda", "storm0"}) {
            typeAnew(text);
            refused("bestBelt() of '" + text + "'", ARGUMENT, x::bestBelt);
        }
        typeAnew("a");
        due("the lowest of all", x.bestBelt(), 0);
        x.belt(3, 61);
        due("the longest", x.bestBelt(), 3);
        x.belt(4, 61);
        due("the lower of two", x.bestBelt(), 3);
        tied(3, "a");
        typeAnew("a");
        due("not where it cannot be tied", x.bestBelt(), 4);
        typeAnew("b");
        due("where the most is left", x.bestBelt(), 4);
        for (int f = 0; f < 5; f++) {
            x.belt(f, 20);
        }
        typeAnew("pp");
        due("none", x.bestBelt(), -1);
        x.belt(2, 26);
        due("just one", x.bestBelt(), 2);
        due("the buffer stays", bufferLength(), 2);
        due("nothing is tied", x.count(0), 1);
    }

    private static void trueShare() {
        share(1.0);
        x.set(0, 1);
        x.set(1, 8);
        tied(0, "ab");
        share(1.0);
        x.storm(0);
        share(0.5);
        tied(1, "b");
        share(2.0 / 3.0);
        x.storm(0);
        share(2.0 / 3.0);
        tied(1, "a");
        x.storm(1);
        share(0.5);
        x.fast(1, 1);
        share(0.75);
        x.cut(1, 1);
        x.cut(1, 0);
        x.cut(0, 0);
        share(1.0);
        tied(0, "a");
        x.storm(0);
        share(0.0);
    }

    private static void digest() {
        digestIs("a new object", () -> x = new BeltKnots(), "");
        digestIs("names", PromiseTest::someNames, "");
        digestIs("a storm", () -> {
            someNames();
            x.storm(0);
        }, "");
        digestIs("a stop", PromiseTest::someStop, "");
        digestIs("a buffer", () -> {
            someStop();
            type("cut0/~");
        }, "cut0/~");
        digestIs("an entry", () -> {
            someStop();
            stormy(0, 3);
        }, "");
        digestIs("the share 0", () -> looseNames("a"), "");
        digestIs("9 in 18", () -> looseNames("a", "eeeeeeee", "c", "bb", "d", "cb", "bbc"), "");
        digestIs("1 in 30", () -> looseNames("b", "aaaaaa", "aaeaaa", "aaaeae", "aeaaaa", "aaaaa"), "");
    }

    private static void someNames() {
        x = new BeltKnots();
        x.set(0, 2);
        tiedAll(0, "anna", "bob");
        tied(1, "aeio");
        tied(4, "bnna");
    }

    private static void someStop() {
        someNames();
        x.storm(0);
        worked("tie2:o;storm1;storm1;cut3/0");
    }

    private static void looseNames(String... names) {
        x = new BeltKnots();
        weather(1, 8);
        x.belt(0, 120);
        tiedAll(0, names[0]);
        for (int n = 1; n < names.length; n++) {
            tied(n % 5, names[n]);
        }
        for (int f = 0; f < 5; f++) {
            x.storm(f);
        }
    }
}
