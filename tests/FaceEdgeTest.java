/**
 * For each promise, a test of its own for each sentence of it that names a boundary
 * case: the ranges of its arguments, the least and the most that it returns, what
 * it throws, and what it leaves as it is.
 */
public final class FaceEdgeTest extends Asking {
    private static final String[] SIX = {"a", "b", "c", "d", "e", "f"};

    public static void main(String[] args) {
        newObject();
        tie();
        cut();
        fast();
        give();
        storm();
        belt();
        set();
        append();
        clearBuffer();
        firstError();
        work();
        stopped();
        told();
        undoAndSnapshot();
        letter();
        knot();
        name();
        fisher();
        drowned();
        find();
        count();
        whyNot();
        noGift();
        ifStorm();
        bestBelt();
        trueShare();
        digest();
        allCalls();
        end();
    }

    private static void newObject() {
        test("1: creates empty belts", () -> {
            due("names", x.count(0), 0);
            for (int f = 0; f < 5; f++) {
                int fisher = f;
                due("names of a fisher", x.fisher(f, 1), 0);
                due("what is left", x.fisher(f, 2), 60);
                refused("name(f, 0, 0)", INDEX, () -> x.name(fisher, 0, 0));
                due("what a storm would take", x.ifStorm(f, 0), 0);
            }
        });
        test("1: without a snapshot", () -> refused("restore()", STATE, x::restore));
        test("1: without a saved state, an entry, a storm or a stop", () -> {
            refused("undo()", STATE, x::undo);
            due("saved states", x.count(13), 0);
            due("entries", x.count(6), 0);
            due("storms", x.count(1), 0);
            due("the stop", x.stopped(0), -1);
            due("its reason", x.stopped(1), -1);
        });
        test("1: with an empty buffer", () -> due("clearBuffer()", x.clearBuffer(), 0));
        test("NONE is -1", () -> due("NONE", BeltKnots.NONE, -1));
        test("1: a new object has nothing of another one", () -> {
            tied(0, "a");
            x.set(0, 9);
            x.belt(0, 80);
            x.storm(0);
            x.keep();
            type("abc");
            long first = x.digest();
            BeltKnots other = x;
            x = new BeltKnots();
            due("the digest", x.digest(), digestOf(() -> x = new BeltKnots(), ""));
            x = other;
            due("the other one's digest", x.digest(), first);
        });
    }

    private static void tie() {
        test("2: tie: fisher: 0 to 4", () -> {
            type("a");
            refused("tie(-1)", INDEX, () -> x.tie(-1));
            refused("tie(5)", INDEX, () -> x.tie(5));
            refused("tie(least)", INDEX, () -> x.tie(Integer.MIN_VALUE));
            refused("tie(most)", INDEX, () -> x.tie(Integer.MAX_VALUE));
            due("tie(0)", x.tie(0), 0);
            type("a");
            due("tie(4)", x.tie(4), 0);
        });
        test("2: ties the name that the buffer is (1 to 8 letters, and nothing else)", () -> {
            String[] texts = {"", "abcdabcda", "ab;", ";ab", "a;b", "a-b", "0", "ab0", "tie0:ab", "ab?", "?", "aB",
                "storm0", "{", "a`"};
            for (String text : texts) {
                typeAnew(text);
                refused("tie(0) of '" + text + "'", ARGUMENT, () -> x.tie(0));
            }
            due("one letter", tied(0, "p"), 0);
            due("eight letters", tied(0, "abcabcac"), 1);
            due("as it is", toldWhole(0), "p-abcabcac");
        });
        test("2: and clears the buffer", () -> {
            tied(0, "abcdabcd");
            due("of eight letters", x.clearBuffer(), 0);
            tied(0, "a");
            due("of one letter", x.clearBuffer(), 0);
        });
        test("2: the buffer stays, if it is not a name", () -> {
            type("abcdabcda");
            refused("tie(0)", ARGUMENT, () -> x.tie(0));
            due("the length", x.clearBuffer(), 9);
        });
        test("2: the buffer stays, if it cannot be tied", () -> {
            tied(0, "a");
            type("a");
            refused("tie(0)", STATE, () -> x.tie(0));
            due("the length", x.clearBuffer(), 1);
        });
        test("2: returns its place on the belt, 0 to 5", () -> {
            for (int n = 0; n < 6; n++) {
                due("tie", tied(2, SIX[n]), n);
            }
        });
        test("2: throws IllegalStateException if it cannot be tied, for each reason", () -> {
            tiedAll(0, SIX);
            typeAnew("g");
            refused("1", STATE, () -> x.tie(0));
            x.belt(1, 20);
            typeAnew("aaaabb");
            refused("2: 22 on 20", STATE, () -> x.tie(1));
            typeAnew("aaaaaa");
            due("20 on 20", x.tie(1), 0);
            x.belt(1, 120);
            typeAnew("aaaaaa");
            refused("3", STATE, () -> x.tie(1));
        });
    }

    private static void cut() {
        test("3: cut: fisher: 0 to 4", () -> {
            tied(0, "a");
            tied(4, "b");
            range("cut(f, 0)", INDEX, 0, 4, f -> x.cut(f, 0));
            due("names", x.count(0), 0);
        });
        test("3: name: its place on the belt", () -> {
            tiedAll(0, SIX);
            range("cut(0, n)", INDEX, 0, 5, n -> n == 5 ? x.cut(0, 4) : x.cut(0, n));
            due("the belt", toldWhole(0), "b-c-d-e");
            refused("cut(0, 4) of four", INDEX, () -> x.cut(0, 4));
            refused("cut(1, 0) of none", INDEX, () -> x.cut(1, 0));
        });
        test("3: those behind it come one place nearer", () -> {
            x.set(0, 1);
            tiedAll(0, SIX);
            x.storm(0);
            due("the first", x.cut(0, 0), 5);
            due("the belt", toldWhole(0), "b-c-d-f-f");
            due("the last", x.cut(0, 4), 8);
            due("the belt", toldWhole(0), "b-c-d-f");
            due("one between", x.cut(0, 1), 7);
            due("the belt", toldWhole(0), "b-d-f");
            due("as tied", x.knot(0, 2, 0, 0), 4);
            due("loosened", x.knot(0, 2, 0, 2), 1);
            refused("name(0, 3, 0)", INDEX, () -> x.name(0, 3, 0));
        });
        test("3: the only one", () -> {
            tied(3, "a");
            due("cut(3, 0)", x.cut(3, 0), 5);
            due("the belt", toldWhole(3), "");
            due("left", x.fisher(3, 2), 60);
        });
        test("3: the sixth name: nothing of it is left", () -> {
            x.set(0, 1);
            tiedAll(0, SIX);
            tied(2, "f");
            x.belt(4, 120);
            tiedAll(4, "m", "n", "h", "j", "k", "f"); // takes 11, 12, 10, 10, 11 and 8
            x.cut(0, 5);
            x.cut(4, 5);
            due("the belt", toldWhole(0), "a-b-c-d-e");
            for (int index = 9; index <= 20; index++) {
                due("told(0, " + index + ")", x.told(0, index), -1);
            }
            due("shared names", x.count(10), 0);
            due("f, tied", x.letter(5, 4), 1);
            due("f, read", x.letter(5, 5), 1);
            due("why not", whyNotTied(0, "f"), 0);
            cordIs("of the others", 5 + 6 + 7 + 8 + 7 + 8 + 54);
            due("knots that a storm would loosen", x.ifStorm(0, 1), 2);
            due("tied anew", tied(0, "g"), 5);
            due("the belt", toldWhole(0), "a-b-c-d-e-g");
        });
        test("3: a shorter name in the sixth place, where a longer one was loose", () -> {
            weather(1, 8);
            x.belt(0, 120);
            tiedAll(0, "b", "c", "d", "f", "g", "aeioaeio"); // the five take 38
            tied(1, "bb");
            x.storm(0);
            x.cut(0, 5);
            tied(0, "kdb"); // takes 21
            x.belt(0, 59);
            due("none is loose", x.count(5), 0);
            due("none would be", x.ifStorm(0, 1), 0);
            due("tightened", x.fast(0, 5), 0);
            due("knots", x.name(0, 5, 0), 3);
            due("other letters", x.name(0, 5, 2), 0);
            due("o, tied", x.letter(14, 4), 0);
            cordIs("of both", 59 + 10);
            tied(2, "kdb");
            due("like another one", x.count(10), 1 + 4);
            due("given", x.give(0, 5, 3), 0);
            due("the belt", toldWhole(3), "kdb");
            share(1.0);
        });
        test("3: returns the cord that it took", () -> {
            weather(1, 8);
            x.belt(0, 120);
            due("the least", tied(0, "a"), 0);
            due("the most", tied(0, "pppppppp"), 1);
            due("the most", x.cut(0, 1), 98);
            x.storm(0);
            due("as tied, not as it reads", x.cut(0, 0), 5);
            tied(0, "a");
            x.storm(0);
            x.fast(0, 0);
            due("as tightened", x.cut(0, 0), 6);
        });
    }

    private static void fast() {
        test("4: fast: fisher: 0 to 4", () -> {
            tied(0, "a");
            tied(4, "a");
            range("fast(f, 0)", INDEX, 0, 4, f -> x.fast(f, 0));
        });
        test("4: name: its place on the belt", () -> {
            tiedAll(0, SIX);
            range("fast(0, n)", INDEX, 0, 5, n -> x.fast(0, n));
            refused("fast(1, 0) of none", INDEX, () -> x.fast(1, 0));
        });
        test("4: returns how many of its knots were loose and are tight then", () -> {
            weather(1, 8);
            x.belt(0, 120);
            tiedAll(0, "aeioaeio", "bb", "ac");
            due("none is loose", x.fast(0, 0), 0);
            x.storm(0);
            due("all eight", x.fast(0, 0), 8);
            due("again", x.fast(0, 0), 0);
            due("none can be", x.fast(0, 1), 0);
            x.storm(0);
            due("none that reads as ?", x.fast(0, 2), 0);
            due("still so", toldWhole(0), "bfjpbfjp-bb-?c");
        });
        test("4: throws IllegalStateException if it cannot be tightened", () -> {
            x.set(0, 1);
            tied(0, "kda"); // takes 20
            x.storm(0);
            x.belt(0, 20);
            refused("21 on 20", STATE, () -> x.fast(0, 0));
            x.belt(0, 21);
            due("21 on 21", x.fast(0, 0), 1);
        });
    }

    private static void give() {
        test("5: give: fisher: 0 to 4", () -> {
            tied(0, "a");
            tied(4, "b");
            range("give(f, 0, 2)", INDEX, 0, 4, f -> x.give(f, 0, 2));
            due("the belt", toldWhole(2), "a-b");
        });
        test("5: name: its place on the belt", () -> {
            tiedAll(0, SIX);
            refused("give(0, -1, 1)", INDEX, () -> x.give(0, -1, 1));
            refused("give(0, 6, 1)", INDEX, () -> x.give(0, 6, 1));
            refused("give(0, least, 1)", INDEX, () -> x.give(0, Integer.MIN_VALUE, 1));
            refused("give(0, most, 1)", INDEX, () -> x.give(0, Integer.MAX_VALUE, 1));
            refused("give(1, 0, 0)", INDEX, () -> x.give(1, 0, 0));
            due("give(0, 5, 1)", x.give(0, 5, 1), 0);
            due("give(0, 0, 1)", x.give(0, 0, 1), 1);
            refused("give(0, 4, 1) of four", INDEX, () -> x.give(0, 4, 1));
            due("the giver's belt", toldWhole(0), "b-c-d-e");
            due("the other belt", toldWhole(1), "f-a");
        });
        test("5: other: 0 to 4", () -> {
            tiedAll(2, SIX);
            range("give(2, 0, other)", INDEX, 0, 4, other -> x.give(2, 0, other));
            due("belt 0", toldWhole(0), "a");
            due("belt 4", toldWhole(4), "b");
        });
        test("5: returns its place on the other belt, 0 to 5", () -> {
            tiedAll(0, SIX);
            for (int n = 0; n < 6; n++) {
                due("give(0, 0, 3)", x.give(0, 0, 3), n);
            }
            due("the belt", toldWhole(3), "a-b-c-d-e-f");
            due("given", x.fisher(0, 4), 6);
            tied(0, "g");
            refused("the seventh", STATE, () -> x.give(0, 0, 3));
        });
        test("5: a name of 8 letters, and of 1", () -> {
            tiedAll(0, "abcdefga", "h");
            due("eight", x.give(0, 0, 1), 0);
            due("one", x.give(0, 0, 1), 1);
            due("the belt", toldWhole(1), "abcdefga-h");
            due("knots tied", x.count(9), 18);
        });
    }

    private static void storm() {
        test("6: storm: fisher: 0 to 4", () -> {
            range("storm(f)", INDEX, 0, 4, f -> x.storm(f));
            due("storms", x.count(1), 2);
        });
        test("6: returns how many names are lost", () -> {
            weather(1, 0);
            x.belt(0, 120);
            due("of an empty belt", x.storm(0), 0);
            tiedAll(0, "a", "e", "i", "o", "aa", "ee");
            due("none", x.storm(0), 0);
            due("all six", x.storm(0), 6);
            due("of an empty belt", x.storm(0), 0);
            tiedAll(0, "a", "b");
            x.storm(0);
            due("one of two", x.storm(0), 1);
        });
    }

    private static void belt() {
        test("7: belt: fisher: 0 to 4", () -> {
            range("belt(f, 70)", INDEX, 0, 4, f -> x.belt(f, 70));
            due("belt 0", x.fisher(0, 0), 70);
            due("belt 1", x.fisher(1, 0), 60);
            due("belt 4", x.fisher(4, 0), 70);
        });
        test("7: length: 20 to 120", () -> {
            range("belt(0, length)", ARGUMENT, 20, 120, length -> x.belt(0, length));
        });
        test("7: the names go with their knots", () -> {
            weather(1, 8);
            tiedAll(0, "ab", "o", "e");
            x.storm(0);
            x.storm(0);
            x.belt(0, 120);
            due("the belt", toldWhole(0), "?b-?-?");
            due("how often loosened", x.knot(0, 0, 0, 2), 2);
            due("left", x.fisher(0, 2), 120 - 9 - 13 - 7);
        });
        test("7: returns the length of the old one", () -> {
            due("the first", x.belt(3, 20), 60);
            due("the shortest", x.belt(3, 120), 20);
            due("the longest", x.belt(3, 120), 120);
            due("the same", x.belt(3, 60), 120);
        });
        test("7: throws IllegalStateException if the names take more than that", () -> {
            tiedAll(0, "pp", "a");
            refused("30 and 1 on 30", STATE, () -> x.belt(0, 30));
            due("31 on 31", x.belt(0, 31), 60);
            due("left", x.fisher(0, 2), 0);
            x.cut(0, 1);
            due("26 on 26", x.belt(0, 26), 31);
            refused("26 on 25", STATE, () -> x.belt(0, 25));
            refused("26 on 20", STATE, () -> x.belt(0, 20));
        });
        test("7: as they are tied, not as they read", () -> {
            x.set(0, 1);
            tied(0, "kda"); // takes 20
            x.storm(0);
            due("20 on 20", x.belt(0, 20), 60);
        });
    }

    private static void set() {
        test("8: setting: 0 or 1", () -> range("set(setting, 1)", INDEX, 0, 1, setting -> x.set(setting, 1)));
        test("8: returns the previous value", () -> {
            due("set(0, 9)", x.set(0, 9), 3);
            due("set(0, 9)", x.set(0, 9), 9);
            due("set(1, 8)", x.set(1, 8), 1);
            due("set(1, 0)", x.set(1, 0), 8);
            due("set(0, 1)", x.set(0, 1), 9);
        });
        test("8: throws IllegalArgumentException if value is out of range, that of the setting", () -> {
            refused("set(0, 0)", ARGUMENT, () -> x.set(0, 0));
            due("set(1, 0)", x.set(1, 0), 1);
            due("set(0, 9)", x.set(0, 9), 3);
            refused("set(1, 9)", ARGUMENT, () -> x.set(1, 9));
        });
    }

    private static void append() {
        test("9: code: the character code, 33 to 126", () -> {
            range("append(code)", ARGUMENT, 33, 126, code -> x.append(code));
            due("the length", x.clearBuffer(), 2);
        });
        test("9: returns the new length of the buffer, 1 to 60", () -> {
            for (int length = 1; length <= 60; length++) {
                due("append(33)", x.append(33), length);
            }
        });
        test("9: throws IllegalStateException if the buffer has 60 characters", () -> {
            type("************************************************************".substring(1));
            due("the 60th", x.append('*'), 60);
            refused("the 61st", STATE, () -> x.append('*'));
            x.clearBuffer();
            due("the first one again", x.append('*'), 1);
        });
    }

    private static void clearBuffer() {
        test("10: returns the length that it had, 0 to 60", () -> {
            due("of none", x.clearBuffer(), 0);
            for (int length : new int[] {1, 59, 60}) {
                for (int i = 0; i < length; i++) {
                    x.append('a');
                }
                due("of " + length, x.clearBuffer(), length);
                due("of none", x.clearBuffer(), 0);
            }
        });
        test("10: clears the buffer: nothing of it is left", () -> {
            type("abcdabcdabcd");
            x.clearBuffer();
            type("p");
            due("a name of one letter", x.tie(0), 0);
            due("the belt", toldWhole(0), "p");
        });
    }

    private static void firstError() {
        test("11: returns the index of the first character that is a syntax error", () -> {
            type("?storm0?");
            looked("the first character", x::firstError, 0);
            typeAnew("storm0?storm?");
            looked("the first of two errors", x::firstError, 6);
            typeAnew("storm0;storm0;storm0;storm0;storm0;storm0;storm0;storm0;tie?");
            looked("the last of 60", x::firstError, 59);
        });
        test("11: the length of the buffer if there is none", () -> {
            looked("of none", x::firstError, 0);
            type("t");
            looked("of one", x::firstError, 1);
            typeAnew("storm0;storm0;storm0;storm0;storm0;storm0;storm0;storm0;tie0");
            looked("of 60", x::firstError, 60);
        });
    }

    private static void work() {
        test("12: does what the buffer tells, part by part", () -> {
            due("one part", worked("tie0:ab"), 1);
            due("eight parts", worked("storm0;storm0;storm0;storm0;storm0;storm0;storm0;storm0"), 8);
            due("storms", x.count(1), 8);
            due("with the first and the last fisher", worked("tie4:p;give4/0>0;give0/1>4;fast4/0;cut4/0"), 5);
        });
        test("12: a name of 1 to 8 letters is tied as it is", () -> {
            due("14 and 46 on 60", worked("tie0:p;tie0:abcdefgh"), 2);
            due("the belt", toldWhole(0), "p-abcdefgh");
            due("15 and 46 on 60", worked("tie1:bbc;tie1:abcdefgh"), 1);
            due("the belt", toldWhole(1), "bbc");
            due("the stop", x.stopped(1), 2);
        });
        test("12: up to the first part for which the method would throw an exception", () -> {
            due("the first", worked("cut0/0;storm0"), 0);
            due("no storm", x.count(1), 0);
            due("the second", worked("storm0;cut0/0;storm0"), 1);
            due("one storm", x.count(1), 1);
            due("the last", worked("storm0;storm0;cut0/0"), 2);
            due("three storms", x.count(1), 3);
            due("the second of two that would", worked("cut0/0;cut0/1"), 0);
            due("what the first part makes", worked("tie0:a;cut0/0;cut0/0"), 2);
        });
        test("12: and clears the buffer", () -> {
            worked("storm0");
            due("all done", x.clearBuffer(), 0);
            worked("storm0;cut0/0");
            due("stopped", x.clearBuffer(), 0);
            worked("cut0/0");
            due("nothing done", x.clearBuffer(), 0);
        });
        test("12: undoable, as one call", () -> {
            long before = x.digest();
            due("eight parts", worked("tie0:a;storm0;storm0;storm0;storm0;storm0;storm0;storm0"), 8);
            due("one saved state", x.count(13), 1);
            due("undo()", x.undo(), 0);
            due("the digest", x.digest(), before);
        });
        test("12: also if nothing is done", () -> {
            worked("cut0/0");
            due("one saved state", x.count(13), 1);
            worked("cut0/0");
            due("two saved states", x.count(13), 2);
        });
        test("12: also if nothing is done: with six saved states the oldest one is dropped", () -> {
            x.set(0, 9);
            x.set(0, 8);
            for (int i = 0; i < 5; i++) {
                worked("cut0/0");
            }
            for (int i = 0; i < 6; i++) {
                x.undo();
            }
            due("the oldest that is left", x.count(11), 9);
            refused("undo()", STATE, x::undo);
        });
        test("12: the latest stop is that of this call then, or none, if all are done", () -> {
            worked("storm0;cut0/0");
            due("part", x.stopped(0), 1);
            worked("cut0/0;storm0");
            due("part", x.stopped(0), 0);
            worked("storm0");
            due("none", x.stopped(0), -1);
            due("none", x.stopped(1), -1);
        });
        test("12: throws IllegalArgumentException if the buffer is not complete works (the buffer stays)", () -> {
            worked("cut0/0");
            String[] texts = {"", "s", "storm", "storm0;", ";storm0", "storm0;;storm0", "storm0;tie0:", "tie0:abcdefghi",
                "storm0;give0/0>", "fast0/", "cut0", "storm0;x", "anna"};
            for (String text : texts) {
                typeAnew(text);
                refused("work() of '" + text + "'", ARGUMENT, x::work);
                due("the length", x.clearBuffer(), text.length());
            }
            due("the stop stays", x.stopped(1), 6);
            due("no storm", x.count(1), 0);
        });
    }

    private static void stops(String works, int part, int reason) {
        worked(works);
        due("the part of '" + works + "'", x.stopped(0), part);
        due("the reason of '" + works + "'", x.stopped(1), reason);
    }

    private static void stopped() {
        test("13: throws IllegalArgumentException if what is neither 0 nor 1", () -> {
            range("stopped(what)", ARGUMENT, 0, 1, what -> x.stopped(what));
            worked("cut0/0");
            range("stopped(what)", ARGUMENT, 0, 1, what -> x.stopped(what));
        });
        test("13: NONE if there is no stop", () -> {
            due("of a new object", x.stopped(0), -1);
            due("of a new object", x.stopped(1), -1);
            refused("cut(0, 0) is no stop of work()", INDEX, () -> x.cut(0, 0));
            due("still none", x.stopped(1), -1);
        });
        test("13: the number of the part that stopped it, from 0", () -> {
            stops("cut0/0", 0, 6);
            stops("storm0;storm0;storm0;storm0;storm0;storm0;storm0;cut0/0", 7, 6);
        });
        test("13: the reason, 1: the belt has 6 names", () -> {
            tiedAll(0, SIX);
            stops("tie0:g", 0, 1);
            stops("tie1:g;give1/0>0", 1, 1);
        });
        test("13: the reason, 2: too little is left", () -> {
            x.set(0, 1);
            x.belt(0, 20);
            stops("tie0:pp", 0, 2);
            stops("tie1:pp;give1/0>0", 1, 2);
            stops("tie0:kda;storm0;fast0/0", 2, 2);
        });
        test("13: the reason, 3: the same name", () -> {
            stops("tie0:a;tie0:a", 1, 3);
            stops("tie1:a;give1/0>0", 1, 3);
        });
        test("13: the reason, 4: a knot that reads as \"?\"", () -> {
            weather(1, 8);
            stops("tie0:a;storm0;storm0;give0/0>1", 3, 4);
        });
        test("13: the reason, 5: both fishers are the same", () -> {
            weather(1, 8);
            stops("tie0:a;give0/0>0", 1, 5);
            stops("storm0;storm0;give0/0>0", 2, 5);
        });
        test("13: or 6 if there is no such name", () -> {
            stops("give0/0>1", 0, 6);
            stops("give0/0>0", 0, 6);
            stops("fast0/0", 0, 6);
            stops("cut0/0", 0, 6);
            tiedAll(0, SIX);
            stops("cut0/5;cut0/5", 1, 6);
            stops("fast0/4;fast0/5", 1, 6);
            stops("give0/5>1", 0, 6);
            stops("give0/4>1;give0/4>1", 1, 6);
        });
    }

    private static void told() {
        test("14: told: fisher: 0 to 4", () -> range("told(f, 0)", INDEX, 0, 4, f -> x.told(f, 0)));
        test("14: throws IllegalArgumentException if index is below 0", () -> {
            tied(0, "a");
            refused("told(0, -1)", ARGUMENT, () -> x.told(0, -1));
            refused("told(0, least)", ARGUMENT, () -> x.told(0, Integer.MIN_VALUE));
            due("told(0, 0)", x.told(0, 0), 'a');
        });
        test("14: NONE if it has not so many", () -> {
            due("of no name", x.told(0, 0), -1);
            tied(0, "p");
            due("the last", x.told(0, 0), 'p');
            due("behind the last", x.told(0, 1), -1);
            tied(0, "abcdabcd");
            due("the last", x.told(0, 9), 'd');
            due("behind the last", x.told(0, 10), -1);
            due("the farthest", x.told(0, Integer.MAX_VALUE), -1);
        });
        test("14: its names as they read now, with \"-\" between them", () -> {
            weather(1, 8);
            x.belt(0, 120);
            tiedAll(0, "aaaaaaaa", "aaaaaaab", "aaaaaac", "bbbb", "b");
            due("five names", toldWhole(0), "aaaaaaaa-aaaaaaab-aaaaaac-bbbb-b");
            due("one less than 28", x.told(0, 27), 'b');
            x.storm(0);
            due("as they read now", toldWhole(0), "bbbbbbbb-bbbbbbbb-bbbbbbc-bbbb-b");
            x.storm(0);
            due("as they read now", toldWhole(0), "????????-???????b-??????c-bbbb-b");
        });
    }

    private static void undoAndSnapshot() {
        test("15: undo returns how many saved states are left, 5 to 0", () -> {
            stormy(0, 7);
            for (int left = 5; left >= 0; left--) {
                due("undo()", x.undo(), left);
            }
        });
        test("15: throws IllegalStateException if there is none", () -> {
            refused("undo() of a new object", STATE, x::undo);
            x.storm(0);
            x.undo();
            refused("undo() of an empty pile", STATE, x::undo);
            x.keep();
            type("a");
            refused("undo() behind keep() and append()", STATE, x::undo);
        });
        test("15: restores the latest saved state: undo is not undone", () -> {
            x.set(0, 4);
            x.set(0, 5);
            x.undo();
            due("setting 0", x.count(11), 4);
            x.undo();
            due("setting 0", x.count(11), 3);
        });
        test("16: keep returns how many names there are on all belts, 0 to 30", () -> {
            looked("of none", x::keep, 0);
            for (int f = 0; f < 5; f++) {
                tiedAll(f, SIX);
            }
            looked("of thirty", x::keep, 30);
            x.cut(4, 5);
            due("of 29", x.keep(), 29);
        });
        test("16: in place of the one before", () -> {
            x.set(0, 4);
            x.keep();
            x.set(0, 5);
            x.keep();
            x.set(0, 6);
            x.restore();
            due("setting 0", x.count(11), 5);
        });
        test("16: the snapshot is not changed by what comes behind it", () -> {
            weather(1, 0);
            tied(0, "a");
            due("keep()", x.keep(), 1);
            stormy(0, 2);
            worked("cut0/0");
            x.belt(3, 120);
            tied(3, "pppppppp");
            due("restore()", x.restore(), 1);
            due("storms", x.count(1), 0);
            due("entries", x.count(6), 0);
            due("belt 3", x.fisher(3, 0), 60);
            due("the stop", x.stopped(0), -1);
        });
        test("17: restore throws IllegalStateException if there is no snapshot", () -> {
            tied(0, "a");
            refused("restore()", STATE, x::restore);
            x.keep();
            due("restore()", x.restore(), 1);
        });
        test("17: restores the state of the snapshot: all of it", () -> {
            weather(1, 0);
            tiedAll(0, "a", "b", "k");
            x.give(0, 1, 4);
            stormy(0, 2);
            worked("fast0/0;cut3/0");
            x.belt(1, 120);
            x.keep();
            due("saved states", x.count(13), 6);
            long snapshot = x.digest();
            weather(9, 8);
            tiedAll(2, "e", "f", "ei");
            x.give(2, 0, 0);
            weather(1, 0);
            stormy(0, 2);
            stormy(2, 2);
            x.cut(4, 0);
            x.belt(1, 90);
            x.belt(3, 20);
            worked("give2/0>2");
            due("saved states", x.count(13), 6);
            due("restore()", x.restore(), 2);
            due("the digest", x.digest(), snapshot);
            due("a lost name", found("a"), 0);
        });
        test("17: the snapshot stays", () -> {
            x.keep();
            for (int i = 0; i < 8; i++) {
                tied(0, "a");
                due("restore()", x.restore(), 0);
            }
        });
        test("17: the snapshot stays, also when all is undone to before it", () -> {
            x.set(0, 9);
            x.keep();
            x.undo();
            due("setting 0", x.count(11), 3);
            x.restore();
            due("setting 0", x.count(11), 9);
        });
        test("17: undoable", () -> {
            x.keep();
            tied(0, "a");
            x.restore();
            due("two saved states", x.count(13), 2);
            due("undo()", x.undo(), 1);
            due("the belt", toldWhole(0), "a");
            stormy(1, 5);
            due("six saved states", x.count(13), 6);
            x.restore();
            due("still six", x.count(13), 6);
            x.undo();
            due("storms", x.count(1), 5);
        });
        test("17: returns how many names there are on all belts then, 0 to 30", () -> {
            for (int f = 0; f < 5; f++) {
                tiedAll(f, SIX);
            }
            x.keep();
            x.cut(0, 0);
            due("of thirty", x.restore(), 30);
        });
        test("17: returns how many names there are on all belts then: 0", () -> {
            x.keep();
            tied(0, "a");
            due("of none", x.restore(), 0);
        });
        test("17: the buffer is not of the state", () -> {
            type("a");
            x.keep();
            type("b");
            x.restore();
            due("the length", x.clearBuffer(), 2);
        });
    }

    private static void letter() {
        test("18: letter: 0 to 15", () -> range("letter(l, 5)", INDEX, 0, 15, l -> x.letter(l, 5)));
        test("18: throws IllegalArgumentException if what is not 0 to 5", () ->
            range("letter(0, what)", ARGUMENT, 0, 5, what -> x.letter(0, what)));
        test("18: 4: its knots on all belts, as tied; 5: knots that read as it now", () -> {
            weather(1, 8);
            due("a, of none", x.letter(0, 4), 0);
            due("a, of none", x.letter(0, 5), 0);
            x.belt(0, 120);
            tiedAll(0, "aaaaaaaa", "b");
            tied(4, "ab");
            due("a, tied", x.letter(0, 4), 9);
            due("a, read", x.letter(0, 5), 9);
            x.storm(0);
            due("a, tied", x.letter(0, 4), 9);
            due("a, read", x.letter(0, 5), 1);
            due("b, tied", x.letter(1, 4), 2);
            due("b, read", x.letter(1, 5), 10);
            x.storm(0);
            due("a, tied", x.letter(0, 4), 9);
            due("b, read", x.letter(1, 5), 2);
            x.storm(4);
            x.fast(4, 0);
            due("a, tied", x.letter(0, 4), 8);
            due("b, tied", x.letter(1, 4), 3);
            due("p", x.letter(15, 5), 0);
        });
    }

    private static void knot() {
        test("19: knot: fisher: 0 to 4", () -> {
            tied(0, "a");
            tied(4, "a");
            range("knot(f, 0, 0, 0)", INDEX, 0, 4, f -> x.knot(f, 0, 0, 0));
        });
        test("19: name: its place on the belt", () -> {
            tiedAll(0, SIX);
            range("knot(0, n, 0, 0)", INDEX, 0, 5, n -> x.knot(0, n, 0, 0));
            refused("knot(1, 0, 0, 0)", INDEX, () -> x.knot(1, 0, 0, 0));
        });
        test("19: knot: 0 to 7", () -> {
            tied(0, "a");
            range("knot(0, 0, k, 0)", ARGUMENT, 0, 7, k -> x.knot(0, 0, k, 0));
        });
        test("19: what: 0 to 2", () -> {
            tied(0, "a");
            range("knot(0, 0, 0, what)", ARGUMENT, 0, 2, what -> x.knot(0, 0, 0, what));
            range("knot(0, 0, 7, what)", ARGUMENT, 0, 2, what -> x.knot(0, 0, 7, what));
        });
        test("19: NONE if the name has not so many knots", () -> {
            tiedAll(0, "b", "bbbbbbb");
            for (int what = 0; what <= 2; what++) {
                due("the first of one", x.knot(0, 0, 0, what), what == 2 ? 0 : 1);
                due("the second of one", x.knot(0, 0, 1, what), -1);
                due("the eighth of one", x.knot(0, 0, 7, what), -1);
                due("the seventh of seven", x.knot(0, 1, 6, what), what == 2 ? 0 : 1);
                due("the eighth of seven", x.knot(0, 1, 7, what), -1);
            }
            x.cut(0, 1);
            tied(0, "bbbbbbbb");
            due("the eighth of eight", x.knot(0, 1, 7, 0), 1);
        });
        test("19: a name in the place of a longer one has not so many", () -> {
            tied(0, "pppp");
            x.cut(0, 0);
            tied(0, "a");
            due("the second", x.knot(0, 0, 1, 0), -1);
            due("the belt", toldWhole(0), "a");
        });
        test("19: 16 for \"?\"", () -> {
            weather(1, 8);
            tied(0, "ap");
            stormy(0, 2);
            due("?", x.knot(0, 0, 0, 1), 16);
            due("p", x.knot(0, 0, 1, 1), 15);
        });
        test("19: 2: how often it was loosened", () -> {
            weather(1, 8);
            tied(0, "ab");
            for (int times = 0; times <= 20; times++) {
                due("the vowel", x.knot(0, 0, 0, 2), times);
                due("the other one", x.knot(0, 0, 1, 2), 0);
                x.storm(0);
            }
        });
    }

    private static void name() {
        test("20: name: fisher: 0 to 4", () -> {
            tied(0, "a");
            tied(4, "a");
            range("name(f, 0, 0)", INDEX, 0, 4, f -> x.name(f, 0, 0));
        });
        test("20: name: its place on the belt", () -> {
            tiedAll(0, SIX);
            range("name(0, n, 0)", INDEX, 0, 5, n -> x.name(0, n, 0));
            refused("name(1, 0, 0)", INDEX, () -> x.name(1, 0, 0));
        });
        test("20: throws IllegalArgumentException if what is not 0 to 4", () -> {
            tied(0, "a");
            range("name(0, 0, what)", ARGUMENT, 0, 4, what -> x.name(0, 0, what));
        });
        test("20: 0: its knots, 1 to 8", () -> {
            tiedAll(0, "a", "aaaaaaaa");
            due("of one", x.name(0, 0, 0), 1);
            due("of eight", x.name(0, 1, 0), 8);
        });
        test("20: 2: knots that read as another letter, or as \"?\"; 3: knots that read as \"?\"", () -> {
            weather(9, 8);
            tied(0, "aaaaaaab");
            for (int storms = 0; storms < 18; storms++) {
                int loosened = Math.max(0, Math.min(7, storms - 1));
                due("other letters behind " + storms, x.name(0, 0, 2), loosened);
                due("? behind " + storms, x.name(0, 0, 3), Math.max(0, Math.min(7, storms - 10)));
                x.storm(0);
            }
        });
        test("20: 4: behind how many storms to this fisher it would be lost: 1, with too many of \"?\" now", () -> {
            weather(1, 8);
            tied(0, "ab");
            stormy(0, 2);
            weather(9, 0);
            looked("name(0, 0, 4)", () -> x.name(0, 0, 4), 1);
            due("storm(0)", x.storm(0), 1);
        });
        test("20: 4: it would be lost by just the last of those storms", () -> {
            for (int borne = 0; borne <= 7; borne++) {
                x = new BeltKnots();
                weather(9, borne);
                stormy(0, borne);
                tied(0, "aaaaaaaa");
                int storms = x.name(0, 0, 4);
                for (int i = 1; i < storms; i++) {
                    due("storm " + i, x.storm(0), 0);
                    due("it is " + (storms - i) + " then", x.name(0, 0, 4), storms - i);
                }
                due("the last storm", x.storm(0), 1);
            }
        });
        test("20: 4: the most that there can be is 18", () -> {
            weather(9, 0);
            stormy(0, 8);
            tied(0, "a");
            due("at storms 17 and 26", x.name(0, 0, 4), 18);
            tied(1, "aa");
            due("at storms 16 and 25", x.name(1, 0, 4), 17);
            x.storm(1);
            due("one storm behind that", x.name(0, 0, 4), 17);
        });
        test("20: 4: NONE if not in 60", () -> {
            weather(1, 8);
            tiedAll(0, "aaaaaaaa", "b");
            due("never more than 8", x.name(0, 0, 4), -1);
            due("no vowel", x.name(0, 1, 4), -1);
            x.set(1, 7);
            due("eight of eight", x.name(0, 0, 4), 2);
            x.set(1, 0);
            due("no vowel", x.name(0, 1, 4), -1);
            tied(1, "ab");
            x.set(1, 1);
            due("one vowel, of which more than one", x.name(1, 0, 4), -1);
        });
    }

    private static void fisher() {
        test("21: fisher: 0 to 4", () -> range("fisher(f, 4)", INDEX, 0, 4, f -> x.fisher(f, 4)));
        test("21: throws IllegalArgumentException if what is not 0 to 4", () ->
            range("fisher(0, what)", ARGUMENT, 0, 4, what -> x.fisher(0, what)));
        test("21: 1: its names, 0 to 6; 2: what is left of it", () -> {
            due("no name", x.fisher(0, 1), 0);
            int left = 60;
            for (int n = 0; n < 6; n++) {
                due("left", x.fisher(0, 2), left);
                tied(0, SIX[n]);
                left -= 2 + x.letter(n, 2) + 1;
                due("names", x.fisher(0, 1), n + 1);
            }
            due("left", x.fisher(0, 2), 60 - 5 - 6 - 7 - 8 - 7 - 8);
            x.belt(0, 41);
            due("nothing is left", x.fisher(0, 2), 0);
        });
        test("21: 3: names lost so far, also those that the list has dropped", () -> {
            weather(1, 0);
            sixDrown(0);
            sixDrown(0);
            sixDrown(0);
            due("lost", x.fisher(0, 3), 18);
            due("lost by another", x.fisher(1, 3), 0);
            x.undo();
            due("undone", x.fisher(0, 3), 12);
        });
        test("21: 3 and 4: names lost and names given away, each by itself", () -> {
            weather(1, 0);
            tiedAll(0, "b", "a");
            x.give(0, 0, 1);
            due("lost", x.fisher(0, 3), 0);
            due("given away", x.fisher(0, 4), 1);
            stormy(0, 2);
            due("lost", x.fisher(0, 3), 1);
            due("given away", x.fisher(0, 4), 1);
            due("lost in all", x.count(7), 1);
            due("given in all", x.count(8), 1);
            tiedAll(0, "e", "i");
            stormy(0, 2);
            due("lost", x.fisher(0, 3), 3);
            due("given away", x.fisher(0, 4), 1);
        });
        test("21: 4: names given away so far, not those that were got", () -> {
            tied(0, "a");
            x.give(0, 0, 4);
            x.give(4, 0, 0);
            x.give(0, 0, 4);
            due("given by 0", x.fisher(0, 4), 2);
            due("given by 4", x.fisher(4, 4), 1);
            x.cut(4, 0);
            due("still", x.fisher(0, 4), 2);
        });
    }

    private static void sixDrown(int fisher) {
        tiedAll(fisher, "a", "e", "i", "o", "aa", "ae");
        stormy(fisher, 2);
    }

    private static void drowned() {
        test("22: throws IllegalArgumentException if entry is below 0", () -> {
            refused("drowned(-1, 0)", ARGUMENT, () -> x.drowned(-1, 0));
            refused("drowned(least, 0)", ARGUMENT, () -> x.drowned(Integer.MIN_VALUE, 0));
            due("drowned(0, 0)", x.drowned(0, 0), -1);
        });
        test("22: or what is not 0 to 3", () -> {
            range("drowned(0, what), of none", ARGUMENT, 0, 3, what -> x.drowned(0, what));
            weather(1, 0);
            tied(0, "a");
            stormy(0, 2);
            range("drowned(0, what), of one", ARGUMENT, 0, 3, what -> x.drowned(0, what));
            refused("drowned(12, 4)", ARGUMENT, () -> x.drowned(12, 4));
        });
        test("22: NONE if there are not so many", () -> {
            weather(1, 0);
            for (int what = 0; what <= 3; what++) {
                due("of none", x.drowned(0, what), -1);
            }
            tied(0, "a");
            stormy(0, 2);
            for (int what = 0; what <= 3; what++) {
                due("the first of one", x.drowned(0, what), new int[] {1, 0, 2, 0}[what]);
                due("the second of one", x.drowned(1, what), -1);
            }
            due("the farthest", x.drowned(Integer.MAX_VALUE, 0), -1);
        });
        test("22: 0: the knots of the name, 1 to 8; 1: its fisher, 0 to 4; 3: its first letter", () -> {
            weather(1, 0);
            tied(4, "oaaaaaaa");
            tied(0, "a");
            stormy(4, 2);
            stormy(0, 2);
            due("knots", x.drowned(0, 0), 8);
            due("fisher", x.drowned(0, 1), 4);
            due("first letter", x.drowned(0, 3), 14);
            due("knots", x.drowned(1, 0), 1);
            due("fisher", x.drowned(1, 1), 0);
            due("first letter", x.drowned(1, 3), 0);
            tied(2, "pa");
            stormy(2, 2);
            due("first letter", x.drowned(2, 3), 15);
        });
    }

    private static void find() {
        test("23: the name that the buffer is (1 to 8 letters, and nothing else)", () -> {
            for (String text : new String[] {"", "abcdabcda", "?", "a;", "a-a", "q", "tie0:a", "A"}) {
                typeAnew(text);
                refused("find() of '" + text + "'", ARGUMENT, x::find);
            }
        });
        test("23: returns the place of the latest entry with this name: of 1 letter and of 8", () -> {
            weather(1, 0);
            tiedAll(0, "aaaaaaaa", "a", "aaaaaaab");
            stormy(0, 2);
            typeAnew("aaaaaaaa");
            looked("eight letters", x::find, 0);
            typeAnew("a");
            looked("one letter", x::find, 1);
            due("all but the last letter the same", found("aaaaaaab"), 2);
            due("none of seven", found("aaaaaaa"), -1);
        });
        test("23: the last place of a full list, and the first", () -> {
            weather(1, 0);
            sixDrown(0);
            sixDrown(0);
            due("the last place", found("ae"), 11);
            tied(0, "ea");
            stormy(0, 2);
            due("the last place", found("ea"), 11);
            due("it came one nearer", found("ae"), 10);
            due("the other a", found("a"), 5);
        });
        test("23: NONE if there is none", () -> {
            due("in an empty list", found("a"), -1);
            tied(0, "a");
            due("on a belt only", found("a"), -1);
        });
    }

    private static void count() {
        test("24: throws IllegalArgumentException if what is not 0 to 13", () ->
            range("count(what)", ARGUMENT, 0, 13, what -> x.count(what)));
        test("24: 0: names on all belts, 0 to 30", () -> {
            for (int f = 0; f < 5; f++) {
                due("names", x.count(0), 6 * f);
                tiedAll(f, SIX);
            }
            due("names", x.count(0), 30);
        });
        test("24: 5: knots that were loosened (once or more)", () -> {
            weather(1, 8);
            due("none", x.count(5), 0);
            tiedAll(0, "aab", "e");
            tied(1, "o");
            x.storm(0);
            due("once", x.count(5), 3);
            x.storm(0);
            due("or more", x.count(5), 3);
            x.storm(1);
            due("on all belts", x.count(5), 4);
            x.fast(1, 0);
            due("tight again", x.count(5), 3);
            x.cut(0, 0);
            due("untied", x.count(5), 1);
        });
        test("24: 6: entries of the list, at most 12; 7: names lost so far", () -> {
            weather(1, 0);
            for (int six = 1; six <= 3; six++) {
                sixDrown(six);
                due("entries", x.count(6), Math.min(12, 6 * six));
                due("lost", x.count(7), 6 * six);
            }
        });
        test("24: 8: names given so far", () -> {
            tied(0, "a");
            for (int f = 0; f < 4; f++) {
                due("given", x.count(8), f);
                x.give(f, 0, f + 1);
            }
            x.cut(4, 0);
            due("given", x.count(8), 4);
        });
        test("24: 9: knots tied so far, by gifts, too", () -> {
            x.set(0, 1);
            due("none", x.count(9), 0);
            tied(0, "abcdabcd");
            due("of a name", x.count(9), 8);
            x.storm(0);
            x.fast(0, 0);
            due("tightened", x.count(9), 8);
            x.give(0, 0, 1);
            due("of a gift", x.count(9), 16);
            x.cut(1, 0);
            due("untied", x.count(9), 16);
            worked("tie0:ab;give0/0>1");
            due("of works", x.count(9), 20);
        });
        test("24: 10: the bit f for each fisher whose belt has a name that another belt has, too", () -> {
            due("of empty belts", x.count(10), 0);
            tiedAll(0, "ab", "ac", "a", "b", "d");
            due("of one belt", x.count(10), 0);
            tied(4, "aba");
            due("a longer one", x.count(10), 0);
            tied(4, "d");
            due("the first and the last fisher", x.count(10), 1 + 16);
            tied(2, "aba");
            due("another pair", x.count(10), 1 + 4 + 16);
            x.cut(4, 1);
            due("one pair", x.count(10), 4 + 16);
            for (int f = 0; f < 5; f++) {
                tied(f, "p");
            }
            due("all", x.count(10), 31);
        });
        test("24: 10: a name twice on one belt is no other belt's", () -> {
            x.set(0, 1);
            tiedAll(0, "a", "b");
            x.storm(0);
            due("the belt", toldWhole(0), "b-b");
            due("none", x.count(10), 0);
        });
        test("24: 10: (as they read now; \"?\" is like \"?\")", () -> {
            weather(1, 8);
            tied(0, "ac");
            tied(1, "bc");
            tied(2, "ec");
            due("as tied", x.count(10), 0);
            x.storm(0);
            due("bc and bc", x.count(10), 3);
            x.storm(0);
            due("?c and bc", x.count(10), 0);
            stormy(2, 2);
            due("?c and ?c", x.count(10), 1 + 4);
        });
        test("24: 13: saved states, 0 to 6", () -> {
            for (int storms = 0; storms <= 8; storms++) {
                due("saved", x.count(13), Math.min(6, storms));
                x.storm(0);
            }
        });
    }

    private static void whyNot() {
        test("25: whyNot: fisher: 0 to 4", () -> {
            type("a");
            range("whyNot(f)", INDEX, 0, 4, f -> x.whyNot(f));
        });
        test("25: throws IllegalArgumentException if the buffer is not a name", () -> {
            for (String text : new String[] {"", "abcdabcda", "?", "a;", "q"}) {
                typeAnew(text);
                refused("whyNot(0) of '" + text + "'", ARGUMENT, () -> x.whyNot(0));
            }
        });
        test("25: returns the reason, 1 to 3; 0 if it can", () -> {
            tiedAll(0, SIX);
            x.belt(1, 20);
            tied(2, "pp");
            typeAnew("pp");
            looked("1", () -> x.whyNot(0), 1);
            looked("2", () -> x.whyNot(1), 2);
            looked("3", () -> x.whyNot(2), 3);
            looked("0", () -> x.whyNot(3), 0);
            typeAnew("abcdabcd");
            looked("a name of eight letters", () -> x.whyNot(3), 0);
        });
    }

    private static void noGift() {
        test("26: noGift: fisher: 0 to 4", () -> {
            tied(0, "a");
            tied(4, "b");
            range("noGift(f, 0, 2)", INDEX, 0, 4, f -> x.noGift(f, 0, 2));
        });
        test("26: name: its place on the belt", () -> {
            tiedAll(0, SIX);
            range("noGift(0, n, 2)", INDEX, 0, 5, n -> x.noGift(0, n, 2));
            refused("noGift(1, 0, 1), of no name", INDEX, () -> x.noGift(1, 0, 1));
        });
        test("26: other: 0 to 4", () -> {
            tied(2, "a");
            range("noGift(2, 0, other)", INDEX, 0, 4, other -> x.noGift(2, 0, other));
        });
        test("26: returns the reason: 5, 4, or 1 to 3; 0 if it can", () -> {
            weather(1, 8);
            tied(1, "pp");
            tiedAll(2, SIX);
            x.belt(3, 20);
            tied(4, "pp");
            looked("1", () -> x.noGift(1, 0, 2), 1);
            looked("2", () -> x.noGift(1, 0, 3), 2);
            looked("3", () -> x.noGift(1, 0, 4), 3);
            looked("0", () -> x.noGift(1, 0, 0), 0);
            looked("5", () -> x.noGift(1, 0, 1), 5);
            tied(0, "a");
            stormy(0, 2);
            looked("4", () -> x.noGift(0, 0, 1), 4);
        });
    }

    private static void ifStorm() {
        test("27: ifStorm: fisher: 0 to 4", () -> range("ifStorm(f, 0)", INDEX, 0, 4, f -> x.ifStorm(f, 0)));
        test("27: throws IllegalArgumentException if what is neither 0 nor 1", () ->
            range("ifStorm(0, what)", ARGUMENT, 0, 1, what -> x.ifStorm(0, what)));
        test("27: 0: names that would be lost, 0 to 6", () -> {
            weather(1, 0);
            looked("of no name", () -> x.ifStorm(0, 0), 0);
            tiedAll(0, "a", "e", "i", "o", "aa", "ae");
            looked("of six", () -> x.ifStorm(0, 0), 0);
            x.storm(0);
            looked("all of six", () -> x.ifStorm(0, 0), 6);
            due("storm(0)", x.storm(0), 6);
        });
        test("27: 1: knots that would be loosened by it", () -> {
            looked("of no name", () -> x.ifStorm(0, 1), 0);
            weather(1, 8);
            x.belt(0, 120);
            tiedAll(0, "aaaaaaaa", "aaaaaaa", "aaaaaa", "aaaaa", "aaaa");
            looked("all of thirty", () -> x.ifStorm(0, 1), 30);
            stormy(0, 2);
            looked("also those that read as ?", () -> x.ifStorm(0, 1), 30);
            x.set(1, 0);
            looked("also those of names that would be lost", () -> x.ifStorm(0, 1), 30);
            looked("all five names", () -> x.ifStorm(0, 0), 5);
        });
        test("27: of the storm that comes next, of all", () -> {
            x.set(0, 9);
            tied(0, "aaaaaaaa");
            due("storm 1: place 8", x.ifStorm(0, 1), 1);
            stormy(1, 8);
            due("storm 9: none", x.ifStorm(0, 1), 0);
            x.storm(1);
            due("storm 10: place 8", x.ifStorm(0, 1), 1);
        });
    }

    private static void bestBelt() {
        test("28: throws IllegalArgumentException if the buffer is not a name", () -> {
            for (String text : new String[] {"", "abcdabcda", "?", "a;", "q"}) {
                typeAnew(text);
                refused("bestBelt() of '" + text + "'", ARGUMENT, x::bestBelt);
            }
        });
        test("28: the one with whom the most would be left of the belt; of several the lowest", () -> {
            type("a");
            looked("of five", x::bestBelt, 0);
            x.belt(4, 61);
            looked("the last one", x::bestBelt, 4);
            x.belt(2, 61);
            looked("the lower one of two", x::bestBelt, 2);
            x.belt(3, 62);
            looked("1 more", x::bestBelt, 3);
            tied(3, "b");
            typeAnew("a");
            looked("what is left, not the length", x::bestBelt, 2);
        });
        test("28: of the fishers on whose belt it could be tied", () -> {
            x.belt(1, 120);
            tiedAll(1, SIX);
            x.belt(2, 110);
            tied(2, "pp");
            type("pp");
            due("left with the first", x.fisher(1, 2), 79);
            due("left with the second", x.fisher(2, 2), 84);
            looked("neither of them", x::bestBelt, 0);
        });
        test("28: NONE if there is none", () -> {
            for (int f = 0; f < 5; f++) {
                x.belt(f, 20);
            }
            type("pp");
            looked("26 on 20", x::bestBelt, -1);
            x.belt(4, 25);
            looked("26 on 25", x::bestBelt, -1);
            x.belt(4, 26);
            looked("26 on 26", x::bestBelt, 4);
        });
    }

    private static void trueShare() {
        test("29: 1.0 without any", () -> {
            share(1.0);
            tied(0, "a");
            x.cut(0, 0);
            share(1.0);
        });
        test("29: divided by all knots, as a double: from 1.0 to 0.0", () -> {
            weather(9, 8);
            tied(0, "aaaaaaaa");
            share(1.0);
            for (int storms = 1; storms <= 8; storms++) {
                x.storm(0);
                share((8 - storms) / 8.0);
            }
            tied(4, "bc");
            share(2.0 / 10.0);
            x.cut(4, 0);
            tied(4, "b");
            share(1.0 / 9.0);
        });
        test("29: the knots that read as the letter as which they were tied", () -> {
            x.set(0, 1);
            tied(0, "aeb");
            x.storm(0);
            share(1.0 / 3.0);
            x.fast(0, 0);
            share(1.0);
        });
    }

    private static void begin(int step, int borne, int length) {
        x = new BeltKnots();
        weather(step, borne);
        x.belt(0, length);
    }

    private static void digest() {
        test("30: the hash starts at 3917: a new object", () -> {
            digestIs("a new object", () -> x = new BeltKnots(), "");
        });
        test("30: count(0) to count(13): thirty names, six saved states", () -> {
            digestIs("thirty names", () -> {
                x = new BeltKnots();
                for (int f = 0; f < 5; f++) {
                    tiedAll(f, SIX);
                }
            }, "");
        });
        test("30: for each letter its numbers 0 to 5", () -> {
            digestIs("all letters", () -> {
                begin(1, 8, 120);
                tiedAll(0, "abcdefgh");
                x.belt(1, 120);
                tied(1, "ijklmnop");
                x.storm(0);
            }, "");
        });
        test("30: for each fisher the numbers 0 to 4, ifStorm, the belt as a text, its names and knots", () -> {
            digestIs("a full belt", () -> {
                begin(1, 8, 120);
                tiedAll(0, "aaaaaaaa", "aaaaaaa", "aaaaaa", "aaaaa", "aaaa", "b");
                stormy(0, 2);
                tied(3, "b");
                x.give(3, 0, 4);
                x.set(1, 0);
            }, "");
        });
        test("30: for each entry of the list its numbers 0 to 3: twelve, and one dropped", () -> {
            digestIs("a full list", () -> {
                begin(1, 0, 60);
                sixDrown(0);
                sixDrown(4);
                tied(2, "oo");
                stormy(2, 2);
            }, "");
        });
        test("30: stopped with 0 and 1", () -> {
            digestIs("a stop", () -> {
                x = new BeltKnots();
                worked("storm0;storm0;cut0/0");
            }, "");
            digestIs("a stop of part 0", () -> {
                x = new BeltKnots();
                worked("give0/0>0");
            }, "");
        });
        test("30: the bits of trueShare: 0.0, 1.0 and between", () -> {
            for (int storms = 0; storms <= 8; storms++) {
                int some = storms;
                digestIs("the share of " + storms + " in 8", () -> {
                    begin(9, 8, 60);
                    tied(0, "aaaaaaaa");
                    stormy(0, some);
                }, "");
            }
        });
        test("30: the bits of trueShare: shares that end and that do not", () -> {
            String name = "aaaaaaaa";
            for (int others = 0; others <= 7; others++) {
                int some = others;
                digestIs(others + " of 8 to 15", () -> {
                    begin(1, 8, 60);
                    tied(0, name);
                    stormy(0, 1);
                    if (some > 0) {
                        tied(0, "bbbbbbb".substring(7 - some));
                    }
                }, "");
            }
            digestIs("1 of 30", () -> {
                begin(1, 8, 120);
                tiedAll(0, "aaaaaaaa", "aaaaaaa", "aaaaaa", "aaaaa", "aaa");
                x.storm(0);
                tied(0, "b");
            }, "");
        });
        test("30: the length of the buffer and each of its character codes: 0, 1 and 60", () -> {
            StringBuilder codes = new StringBuilder();
            for (int code = 33; code <= 92; code++) {
                codes.append((char) code);
            }
            for (String text : new String[] {"", "!", "~", "a", codes.toString()}) {
                digestIs("the buffer '" + text + "'", () -> {
                    x = new BeltKnots();
                    type(text);
                }, text);
            }
        });
        test("30: a hash of the whole state: 1 more somewhere is another hash", () -> {
            long first = x.digest();
            x.storm(0);
            due("a storm", x.digest() == first ? 1 : 0, 0);
            x.undo();
            due("undone", x.digest(), first);
            x.append('a');
            due("a character", x.digest() == first ? 1 : 0, 0);
            x.clearBuffer();
            due("cleared", x.digest(), first);
            x.keep();
            due("the snapshot is not of it", x.digest(), first);
        });
    }

    private static void allCalls() {
        test("looks change nothing", () -> {
            weather(1, 0);
            tied(0, "ae");
            stormy(0, 1);
            x.keep();
            type("bf");
            looked("letter", () -> x.letter(1, 5), 1);
            looked("knot", () -> x.knot(0, 0, 0, 1), 1);
            looked("name", () -> x.name(0, 0, 4), 1);
            looked("fisher", () -> x.fisher(0, 2), 50);
            looked("drowned", () -> x.drowned(0, 0), -1);
            looked("find", x::find, -1);
            looked("count", () -> x.count(10), 0);
            looked("whyNot", () -> x.whyNot(0), 3);
            looked("noGift", () -> x.noGift(0, 0, 1), 0);
            looked("ifStorm", () -> x.ifStorm(0, 0), 1);
            looked("bestBelt", x::bestBelt, 1);
            looked("trueShare", () -> (int) (x.trueShare() * 8), 0);
            looked("digest", () -> (int) (x.digest() - x.digest()), 0);
            looked("told", () -> x.told(0, 1), 'f');
            looked("stopped", () -> x.stopped(0), -1);
            looked("firstError", x::firstError, 0);
            due("saved states", x.count(13), 4);
            due("the snapshot", x.restore(), 1);
            due("the name in the buffer", x.tie(1), 0);
        });
        test("an object is used for at most 512 calls: the last of them", () -> {
            weather(1, 8);
            tied(0, "ab");
            stormy(0, 500);
            due("storms", x.count(1), 500);
            due("how often loosened", x.knot(0, 0, 0, 2), 500);
            due("the belt", x.told(0, 0), '?');
            due("saved states", x.count(13), 6);
            due("undo()", x.undo(), 5);
            due("storms", x.count(1), 499);
        });
    }
}
