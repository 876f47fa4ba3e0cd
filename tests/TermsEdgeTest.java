/**
 * For each sentence under "Terms" of the document that names a boundary case a
 * test of its own, which bears that sentence, or the words of it, as its title.
 */
public final class TermsEdgeTest extends Asking {
    public static void main(String[] args) {
        letters();
        knots();
        belts();
        whyANameCannotBeTied();
        storms();
        losses();
        tightening();
        theList();
        gifts();
        cord();
        settings();
        buffer();
        works();
        undo();
        exceptions();
        end();
    }

    private static void letters() {
        test("there are 16 letters, \"a\" to \"p\", numbered from 0", () -> {
            due("tie of a", tied(0, "a"), 0);
            due("tie of p", tied(0, "p"), 1);
            due("the number of a", x.knot(0, 0, 0, 0), 0);
            due("the number of p", x.knot(0, 1, 0, 0), 15);
            for (String text : new String[] {"`", "q", "A", "P", "a`", "`a", "pq", "qp"}) {
                typeAnew(text);
                refused("tie(1) of '" + text + "'", ARGUMENT, () -> x.tie(1));
            }
            range("letter(l, 0)", INDEX, 0, 15, l -> x.letter(l, 0));
        });
        test("the vowels are \"a\", \"e\", \"i\" and \"o\"", () -> {
            x.set(0, 1);
            String letters = "abcdefghijklmnop";
            for (int l = 0; l < 16; l++) {
                due("letter(" + l + ", 3)", x.letter(l, 3), "aeio".indexOf(letters.charAt(l)) < 0 ? 0 : 1);
                tied(l % 5, letters.substring(l, l + 1));
            }
            for (int f = 0; f < 5; f++) {
                x.storm(f);
            }
            for (int l = 0; l < 16; l++) {
                int loosened = "aeio".indexOf(letters.charAt(l)) < 0 ? 0 : 1;
                due("how often " + letters.charAt(l) + " was loosened", x.knot(l % 5, l / 5, 0, 2), loosened);
            }
        });
    }

    private static void knots() {
        test("a knot has turns, 1 to 4: 1 more than k divided by 4", () -> {
            int[] turns = {1, 1, 1, 1, 2, 2, 2, 2, 3, 3, 3, 3, 4, 4, 4, 4};
            for (int l = 0; l < 16; l++) {
                due("turns of " + l, x.letter(l, 0), turns[l]);
            }
        });
        test("and loops, 0 to 3: what is left of k by 4", () -> {
            int[] loops = {0, 1, 2, 3, 0, 1, 2, 3, 0, 1, 2, 3, 0, 1, 2, 3};
            for (int l = 0; l < 16; l++) {
                due("loops of " + l, x.letter(l, 1), loops[l]);
            }
        });
        test("a knot takes 2 times its turns, and its loops, together, of cord", () -> {
            due("the least, of a", x.letter(0, 2), 2);
            due("of d", x.letter(3, 2), 5);
            due("of e", x.letter(4, 2), 4);
            due("of m", x.letter(12, 2), 8);
            due("the most, of p", x.letter(15, 2), 11);
        });
        test("behind each knot there is 1 of cord more", () -> {
            tied(0, "a");
            due("one knot", x.name(0, 0, 1), 2 + 1 + 2);
            tied(0, "aaaaaaaa");
            due("eight knots", x.name(0, 1, 1), 8 * (2 + 1) + 2);
            x.belt(1, 98);
            tied(1, "pppppppp");
            due("the most of all names", x.name(1, 0, 1), 8 * (11 + 1) + 2);
        });
        test("a knot of a vowel that was loosened once reads as the next letter", () -> {
            x.set(0, 1);
            tied(0, "aeio");
            due("tight", toldWhole(0), "aeio");
            x.storm(0);
            due("loosened once", toldWhole(0), "bfjp");
            due("the last of the letters", x.knot(0, 0, 3, 1), 15);
        });
        test("that of one that was loosened twice or more as no letter, \"?\"", () -> {
            weather(1, 8);
            tied(0, "o");
            x.storm(0);
            due("once", x.knot(0, 0, 0, 1), 15);
            for (int times = 2; times <= 9; times++) {
                x.storm(0);
                due("as what it reads", x.knot(0, 0, 0, 1), 16);
                due("as a text", toldWhole(0), "?");
                due("how often it was loosened", x.knot(0, 0, 0, 2), times);
            }
        });
        test("other knots do not loosen", () -> {
            weather(1, 0);
            x.belt(0, 120);
            tiedAll(0, "bcdfgh", "jklmnp");
            stormy(0, 9);
            due("the belt", toldWhole(0), "bcdfgh-jklmnp");
            due("knots that were loosened", x.count(5), 0);
            due("what a storm would loosen", x.ifStorm(0, 1), 0);
        });
        test("other knots do not loosen: nor does a vowel's that was tied anew as the next letter", () -> {
            weather(1, 0);
            tied(0, "aeio");
            x.storm(0);
            x.fast(0, 0);
            stormy(0, 3);
            due("the belt", toldWhole(0), "bfjp");
        });
    }

    private static void belts() {
        test("there are 5 fishers, numbered from 0", () ->
            range("fisher(f, 0)", INDEX, 0, 4, f -> x.fisher(f, 0)));
        test("each with a belt of a length, 20 to 120", () -> {
            range("belt(2, length)", ARGUMENT, 20, 120, length -> x.belt(2, length));
            due("the length", x.fisher(2, 0), 120);
        });
        test("a belt's length is at first 60", () -> {
            for (int f = 0; f < 5; f++) {
                due("fisher(f, 0)", x.fisher(f, 0), 60);
                due("belt(f, 61)", x.belt(f, 61), 60);
            }
        });
        test("on a belt are names, in the order in which they were tied, at most 6", () -> {
            due("no name", toldWhole(0), "");
            due("no name", x.fisher(0, 1), 0);
            String[] names = {"p", "a", "c", "b", "d", "e"};
            x.belt(0, 120);
            for (int n = 0; n < 6; n++) {
                due("its place", tied(0, names[n]), n);
                due("names", x.fisher(0, 1), n + 1);
            }
            due("six names", toldWhole(0), "p-a-c-b-d-e");
            due("why not a seventh", whyNotTied(0, "f"), 1);
            refused("tie(0) of a seventh", STATE, () -> x.tie(0));
            x.cut(0, 0);
            due("why not a sixth again", whyNotTied(0, "f"), 0);
            due("its place", x.tie(0), 5);
            due("six names", toldWhole(0), "a-c-b-d-e-f");
        });
        test("a name has 1 to 8 knots", () -> {
            x.clearBuffer();
            refused("tie(0) of no letter", ARGUMENT, () -> x.tie(0));
            tied(0, "a");
            due("one knot", x.name(0, 0, 0), 1);
            tied(0, "aaaaaaab");
            due("eight knots", x.name(0, 1, 0), 8);
            typeAnew("aaaaaaabb");
            refused("tie(0) of nine letters", ARGUMENT, () -> x.tie(0));
        });
        test("a name takes the cord of its knots, as tied, and 2 more", () -> {
            weather(1, 8);
            tied(0, "ao");
            due("tight", x.name(0, 0, 1), 3 + 11 + 2);
            x.storm(0);
            due("loosened once", x.name(0, 0, 1), 3 + 11 + 2);
            due("left", x.fisher(0, 2), 60 - 16);
            x.storm(0);
            due("unreadable", x.name(0, 0, 1), 3 + 11 + 2);
            due("left", x.fisher(0, 2), 60 - 16);
        });
    }

    private static void whyANameCannotBeTied() {
        test("1: the belt has 6 names", () -> {
            x.belt(0, 120);
            tiedAll(0, "a", "b", "c", "d", "f");
            due("of five names", whyNotTied(0, "g"), 0);
            tied(0, "g");
            due("of six names", whyNotTied(0, "h"), 1);
            due("of another belt", whyNotTied(1, "h"), 0);
        });
        test("2: it takes more than is left of the belt", () -> {
            x.belt(0, 25);
            due("1 more than what is left", whyNotTied(0, "aaaabbb"), 2); // 4 * 3 + 3 * 4 + 2 = 26
            due("just what is left", whyNotTied(0, "aaaaabb"), 0); // 5 * 3 + 2 * 4 + 2 = 25
            due("its place", x.tie(0), 0);
            due("nothing is left", x.fisher(0, 2), 0);
            due("the least name on nothing", whyNotTied(0, "a"), 2);
            x.belt(0, 29);
            due("5 on 4", whyNotTied(0, "a"), 2);
            x.belt(0, 30);
            due("5 on 5", whyNotTied(0, "a"), 0);
        });
        test("3: the belt has the same name, as it reads now", () -> {
            weather(1, 8);
            tied(0, "ab");
            due("the same", whyNotTied(0, "ab"), 3);
            due("a shorter one", whyNotTied(0, "a"), 0);
            due("a longer one", whyNotTied(0, "abb"), 0);
            due("what it will read as", whyNotTied(0, "bb"), 0);
            x.storm(0);
            due("what it reads as", whyNotTied(0, "bb"), 3);
            due("what it was tied as", whyNotTied(0, "ab"), 0);
            x.storm(0);
            due("what it read as", whyNotTied(0, "bb"), 0);
            due("on another belt", whyNotTied(1, "bb"), 0);
        });
        test("3: the same name in each place, from the first to the sixth but one", () -> {
            String[] names = {"a", "b", "c", "d", "aa"};
            tiedAll(0, names);
            for (String name : names) {
                due("why not " + name, whyNotTied(0, name), 3);
            }
        });
        test("for the first of these reasons that applies: 1 ahead of 2 and 3", () -> {
            x.belt(0, 120);
            tiedAll(0, "a", "b", "c", "d", "f", "g");
            x.belt(0, 120 - x.fisher(0, 2));
            due("1, 2 and 3", whyNotTied(0, "a"), 1);
            due("1 and 2", whyNotTied(0, "h"), 1);
            x.belt(0, 120);
            due("1 and 3", whyNotTied(0, "g"), 1);
            due("1", whyNotTied(0, "h"), 1);
        });
        test("for the first of these reasons that applies: 2 ahead of 3", () -> {
            x.belt(0, 33);
            tied(0, "anna");
            due("2 and 3", whyNotTied(0, "anna"), 2);
            x.belt(0, 56);
            due("3", whyNotTied(0, "anna"), 3);
            x.belt(0, 55);
            due("2 and 3", whyNotTied(0, "anna"), 2);
        });
    }

    private static void storms() {
        test("whose place in its name, from 1 on, and the number of the storm can be divided by setting 0", () -> {
            weather(9, 8);
            tied(0, "aaaaaaaa");
            String[] told = {"aaaaaaab", "aaaaaabb", "aaaaabbb", "aaaabbbb", "aaabbbbb", "aabbbbbb",
                "abbbbbbb", "bbbbbbbb", "bbbbbbbb", "bbbbbbb?"};
            for (int number = 1; number <= 10; number++) {
                due("knots that storm " + number + " would loosen", x.ifStorm(0, 1), number == 9 ? 0 : 1);
                x.storm(0);
                due("behind storm " + number, toldWhole(0), told[number - 1]);
            }
        });
        test("can be divided by setting 0: by 1 all can", () -> {
            weather(1, 8);
            tied(0, "aaaaaaaa");
            x.storm(0);
            due("behind one storm", toldWhole(0), "bbbbbbbb");
            x.storm(0);
            due("behind two", toldWhole(0), "????????");
        });
        test("can be divided by setting 0: together, neither the place nor the storm alone", () -> {
            weather(4, 8);
            tied(0, "aaaaaaaa");
            x.storm(0);
            due("storm 1", toldWhole(0), "aabaaaba");
            x.storm(0);
            due("storm 2", toldWhole(0), "abbaabba");
            x.storm(0);
            due("storm 3", toldWhole(0), "bbbabbba");
            x.storm(0);
            due("storm 4", toldWhole(0), "bbbbbbbb");
        });
        test("the number of the storm (from 1 on, of all storms)", () -> {
            tied(0, "aaa");
            tied(1, "aaa");
            x.storm(0);
            due("storm 1", toldWhole(0), "aba");
            x.storm(4);
            x.storm(1);
            due("storm 3", toldWhole(1), "aab");
            due("no storm of his", toldWhole(0), "aba");
            x.undo();
            due("undone", x.count(1), 2);
            x.storm(0);
            due("storm 3 anew", toldWhole(0), "abb");
        });
        test("each vowel on the belt is loosened once more", () -> {
            weather(1, 8);
            x.belt(0, 120);
            tiedAll(0, "a", "ea", "iae", "ba", "caab", "aaaaaaaa");
            tied(1, "a");
            due("knots that would be loosened", x.ifStorm(0, 1), 17);
            x.storm(0);
            due("knots that were loosened", x.count(5), 17);
            due("in the first place", x.knot(0, 0, 0, 2), 1);
            due("in the last place of the last name", x.knot(0, 5, 7, 2), 1);
            due("on another belt", x.knot(1, 0, 0, 2), 0);
            x.storm(0);
            due("once more", x.knot(0, 0, 0, 2), 2);
            due("once more", x.knot(0, 5, 7, 2), 2);
        });
        test("each vowel on the belt: no other belt's, full ones on either side", () -> {
            weather(1, 8);
            for (int f = 0; f < 5; f++) {
                x.belt(f, 120);
                tiedAll(f, "a", "ea", "iae", "ba", "caab", "aaaaaaaa");
            }
            due("names lost", x.storm(2), 0);
            for (int f = 0; f < 5; f++) {
                due("the belt of " + f, toldWhole(f),
                    f == 2 ? "b-fb-jbf-bb-cbbb-bbbbbbbb" : "a-ea-iae-ba-caab-aaaaaaaa");
            }
            due("knots that were loosened", x.count(5), 17);
        });
        test("a storm to a belt with no name counts", () -> {
            due("names lost", x.storm(3), 0);
            due("storms", x.count(1), 1);
            tied(3, "aa");
            x.storm(3);
            due("of storm 2", toldWhole(3), "ba");
        });
    }

    private static void losses() {
        test("if some name has more than setting 1 knots that read as \"?\", it is lost", () -> {
            for (int borne = 0; borne <= 7; borne++) {
                x = new BeltKnots();
                weather(1, borne);
                tied(0, "aaaaaaab".substring(7 - borne));
                tied(1, "aaaaaaaa".substring(7 - borne));
                stormy(0, 2);
                due("knots that read as ?", x.name(0, 0, 3), borne);
                due("as many as setting 1, " + borne, x.fisher(0, 1), 1);
                due("behind one storm", x.storm(1), 0);
                due("what would be lost", x.ifStorm(1, 0), 1);
                due("one more than setting 1, " + borne, x.storm(1), 1);
                due("names", x.fisher(1, 1), 0);
            }
        });
        test("more than setting 1: no name has more than 8", () -> {
            weather(1, 8);
            tied(0, "aaaaaaaa");
            stormy(0, 3);
            due("knots that read as ?", x.name(0, 0, 3), 8);
            due("what would be lost", x.ifStorm(0, 0), 0);
            due("names", x.fisher(0, 1), 1);
        });
        test("if then some name has more: then, not when setting 1 is set", () -> {
            weather(1, 8);
            tied(0, "ab");
            stormy(0, 2);
            weather(9, 0);
            due("names", x.fisher(0, 1), 1);
            due("a storm to another fisher", x.storm(1), 0);
            due("names", x.fisher(0, 1), 1);
            due("what storm 4 would loosen", x.ifStorm(0, 1), 0);
            due("what storm 4 would take", x.ifStorm(0, 0), 1);
            due("storm 4", x.storm(0), 1);
            due("the number of the storm", x.drowned(0, 2), 4);
        });
        test("it is taken off the belt", () -> {
            weather(1, 1);
            tiedAll(0, "ac", "aa", "eb", "ee", "d");
            x.storm(0);
            due("behind one storm", toldWhole(0), "bc-bb-fb-ff-d");
            due("lost by the second", x.storm(0), 2);
            due("behind two storms", toldWhole(0), "?c-?b-d");
            due("left", x.fisher(0, 2), 60 - 10 - 11 - 8);
            due("a knot that came nearer, as tied", x.knot(0, 1, 0, 0), 4);
            due("how often it was loosened", x.knot(0, 1, 0, 2), 2);
            due("its other knot", x.knot(0, 1, 1, 0), 1);
        });
        test("it is taken off the belt: the first, the last and all six", () -> {
            weather(1, 0);
            tiedAll(0, "a", "b", "e");
            stormy(0, 2);
            due("one between", toldWhole(0), "b");
            x.belt(1, 120);
            tiedAll(1, "a", "e", "i", "o", "aa", "ee");
            x.storm(1);
            due("all six", x.storm(1), 6);
            due("none is left", x.fisher(1, 1), 0);
            due("the belt", x.fisher(1, 2), 120);
            due("names lost", x.fisher(1, 3), 6);
        });
        test("and comes to the list as it was tied first on this belt (ahead of any tightening)", () -> {
            weather(3, 0);
            tied(0, "aaa");
            x.storm(0);
            due("one tightened", x.fast(0, 0), 1);
            x.storm(0);
            due("another one tightened", x.fast(0, 0), 1);
            stormy(0, 3);
            due("the belt", toldWhole(0), "bbb");
            due("storm 6", x.storm(0), 1);
            due("first letter", x.drowned(0, 3), 0);
            due("as it was tied first", found("aaa"), 0);
            due("as it was tied last", found("bba"), -1);
        });
        test("as it was tied first on this belt: a given name, as it was tied on the other one", () -> {
            weather(3, 0);
            tied(0, "aaa");
            x.storm(0);
            due("given as aba", x.give(0, 0, 1), 0);
            x.storm(1);
            due("tightened", x.fast(1, 0), 1);
            stormy(1, 4);
            due("names", x.fisher(1, 1), 0);
            due("as it was tied first on belt 1", found("aba"), 0);
            due("as it was tied first of all", found("aaa"), -1);
        });
        test("as it was tied first on this belt: another belt goes on with the names' knots", () -> {
            weather(2, 0);
            tied(0, "oa");
            x.storm(0);
            due("tightened", x.fast(0, 0), 1);
            x.belt(0, 100);
            x.set(0, 1);
            stormy(0, 2);
            due("as it was tied first", found("oa"), 0);
        });
        test("with its fisher and the number of the storm", () -> {
            weather(1, 0);
            tied(0, "a");
            tied(4, "e");
            x.storm(4);
            x.storm(0);
            x.storm(2);
            x.storm(0);
            x.storm(4);
            due("fisher of the first", x.drowned(0, 1), 0);
            due("storm of the first", x.drowned(0, 2), 4);
            due("fisher of the second", x.drowned(1, 1), 4);
            due("storm of the second", x.drowned(1, 2), 5);
        });
    }

    private static void tightening() {
        test("to tighten a name is to make all its knots tight again, as those letters that they read as", () -> {
            x.belt(0, 120);
            x.set(0, 1);
            tied(0, "aeioaeio");
            tied(0, "a");
            x.storm(0);
            due("eight knots", x.fast(0, 0), 8);
            for (int k = 0; k < 8; k++) {
                due("the letter", x.knot(0, 0, k, 0), new int[] {1, 5, 9, 15}[k % 4]);
                due("as it reads", x.knot(0, 0, k, 1), new int[] {1, 5, 9, 15}[k % 4]);
                due("how often loosened", x.knot(0, 0, k, 2), 0);
            }
            due("another name stays", x.knot(0, 1, 0, 2), 1);
        });
        test("a knot that reads as \"?\" stays as it is", () -> {
            weather(1, 8);
            x.belt(0, 20);
            tied(0, "aaaaaa");
            stormy(0, 3);
            due("none is tight then", x.fast(0, 0), 0);
            due("the belt", toldWhole(0), "??????");
            due("as it was tied", x.knot(0, 0, 5, 0), 0);
            due("how often loosened", x.knot(0, 0, 5, 2), 3);
            due("it takes no more", x.name(0, 0, 1), 20);
        });
        test("a knot that reads as \"?\" stays as it is, among others", () -> {
            weather(2, 8);
            tied(0, "aba");
            x.set(0, 4);
            x.storm(0);
            x.set(0, 1);
            tied(0, "o");
            x.storm(0);
            due("the belt", toldWhole(0), "bb?-p");
            due("one is tight then", x.fast(0, 0), 1);
            due("the belt", toldWhole(0), "bb?-p");
            due("the first", x.knot(0, 0, 0, 0), 1);
            due("the first", x.knot(0, 0, 0, 2), 0);
            due("the third", x.knot(0, 0, 2, 0), 0);
            due("the third", x.knot(0, 0, 2, 2), 2);
        });
        test("a knot that reads as \"?\" takes then as much as it did", () -> {
            weather(2, 8);
            tied(0, "pdaa"); // takes 26
            x.belt(0, 26);
            stormy(0, 3);
            due("the belt", toldWhole(0), "pd?b");
            refused("27 on 26", STATE, () -> x.fast(0, 0));
            x.belt(0, 27);
            due("27 on 27", x.fast(0, 0), 1);
            due("it takes", x.name(0, 0, 1), 27);
        });
        test("it cannot be tightened, if the names would take more than the belt is long then", () -> {
            x.set(0, 1);
            tied(0, "aeioaeio");
            x.belt(0, 61);
            x.storm(0);
            due("it takes", x.name(0, 0, 1), 54);
            refused("fast(0, 0), 62 on 61", STATE, () -> x.fast(0, 0));
            x.belt(0, 62);
            due("62 on 62", x.fast(0, 0), 8);
            due("nothing is left", x.fisher(0, 2), 0);
        });
        test("if the names would take more: all of them", () -> {
            x.set(0, 1);
            tiedAll(0, "a", "kb"); // 5 and 15
            x.storm(0);
            x.belt(0, 20);
            refused("fast(0, 0), 21 on 20", STATE, () -> x.fast(0, 0));
            due("what takes no more, on a full belt", x.fast(0, 1), 0);
            x.belt(0, 21);
            due("21 on 21", x.fast(0, 0), 1);
        });
    }

    /** Ties six names on the belt, and storms take all of them. */
    private static void sixDrown(int fisher) {
        tiedAll(fisher, "a", "e", "i", "o", "aa", "ae");
        stormy(fisher, 2);
    }

    private static void theList() {
        test("the list of the drowned has at most 12 entries", () -> {
            weather(1, 0);
            due("none", x.count(6), 0);
            sixDrown(0);
            due("six", x.count(6), 6);
            sixDrown(0);
            due("twelve", x.count(6), 12);
            due("the first", x.drowned(0, 2), 2);
            due("the twelfth", x.drowned(11, 2), 4);
            due("no thirteenth", x.drowned(12, 2), -1);
            tied(1, "oo");
            stormy(1, 2);
            due("still twelve", x.count(6), 12);
            due("no thirteenth", x.drowned(12, 2), -1);
            due("names lost", x.count(7), 13);
        });
        test("the oldest one is dropped first", () -> {
            weather(1, 0);
            sixDrown(0);
            sixDrown(0);
            due("the oldest", x.drowned(0, 3), 0);
            tied(1, "oo");
            stormy(1, 2);
            due("the oldest then", x.drowned(0, 3), 4);
            due("the oldest then", x.drowned(0, 2), 2);
            due("the latest then", x.drowned(11, 3), 14);
            due("the latest then", x.drowned(11, 0), 2);
            due("the latest then", x.drowned(11, 1), 1);
            due("the latest then", x.drowned(11, 2), 6);
        });
        test("the oldest one is dropped first: six at once, by six", () -> {
            weather(1, 0);
            sixDrown(0);
            sixDrown(3);
            sixDrown(1);
            due("entries", x.count(6), 12);
            for (int e = 0; e < 12; e++) {
                due("fisher of entry " + e, x.drowned(e, 1), e < 6 ? 3 : 1);
                due("storm of entry " + e, x.drowned(e, 2), e < 6 ? 4 : 6);
                due("first letter of entry " + e, x.drowned(e, 3), new int[] {0, 4, 8, 14, 0, 0}[e % 6]);
                due("knots of entry " + e, x.drowned(e, 0), e % 6 < 4 ? 1 : 2);
            }
        });
        test("the oldest one is dropped first: two on eleven", () -> {
            weather(1, 0);
            sixDrown(0);
            tiedAll(1, "a", "e", "i", "o", "aa");
            stormy(1, 2);
            due("eleven", x.count(6), 11);
            tiedAll(2, "io", "oi");
            stormy(2, 2);
            due("twelve", x.count(6), 12);
            due("the oldest", x.drowned(0, 3), 4);
            due("io", found("io"), 10);
            due("oi", found("oi"), 11);
        });
        test("the oldest one is dropped first: all letters of the others stay", () -> {
            weather(1, 0);
            String last = "bcdfghjklmnp";
            for (int f = 0; f < 5; f++) {
                x.belt(f, 120);
            }
            for (int n = 0; n < 12; n++) {
                tied(n % 5, "aaaaaaa" + last.charAt(n));
            }
            for (int f = 0; f < 5; f++) {
                stormy(f, 2);
            }
            due("twelve", x.count(6), 12);
            tied(3, "o");
            stormy(3, 2);
            String inOrder = "bhncjpdkflgm"; // of fishers 0 to 4 in turn
            for (int e = 0; e < 12; e++) {
                due("place of the name with " + inOrder.charAt(e), found("aaaaaaa" + inOrder.charAt(e)), e - 1);
            }
            due("place of the latest", found("o"), 11);
        });
        test("the oldest one is dropped first: names on belts stay", () -> {
            weather(1, 0);
            x.belt(4, 120);
            tiedAll(4, "b", "c", "d", "f", "g", "oebabcdi");
            String belt = "b-c-d-f-g-oebabcdi";
            sixDrown(0);
            sixDrown(0);
            due("the last belt", toldWhole(4), belt);
            sixDrown(1);
            due("the last belt", toldWhole(4), belt);
            for (int k = 0; k < 8; k++) {
                due("knot " + k + " of its last name, loosened", x.knot(4, 5, k, 2), 0);
            }
            stormy(4, 2);
            due("it is lost then", toldWhole(4), "b-c-d-f-g");
            due("as it was tied first", found("oebabcdi"), 11);
        });
        test("an entry can be found by a name: that of the latest storm with it", () -> {
            weather(1, 0);
            due("in an empty list", found("a"), -1);
            tied(4, "a");
            stormy(4, 2);
            due("the only one", found("a"), 0);
            tied(0, "e");
            stormy(0, 2);
            tied(0, "a");
            stormy(0, 2);
            due("the later one", found("a"), 2);
            due("another name", found("e"), 1);
            x.undo();
            due("the earlier one", found("a"), 0);
        });
        test("that of the latest storm with it: a dropped one is not found", () -> {
            weather(1, 0);
            tied(4, "io");
            stormy(4, 2);
            sixDrown(0);
            tiedAll(1, "a", "e", "i", "o", "aa");
            stormy(1, 2);
            due("twelve", x.count(6), 12);
            due("the oldest", found("io"), 0);
            due("its knots", x.drowned(0, 0), 2);
            tied(1, "oi");
            stormy(1, 2);
            due("dropped", found("io"), -1);
            due("knots of the oldest then", x.drowned(0, 0), 1);
            due("the oldest then", found("a"), 6);
            due("the latest", found("oi"), 11);
        });
        test("the same name twice in one storm: the later place", () -> {
            weather(1, 8);
            tied(0, "ac");
            x.storm(0);
            tied(0, "ac");
            stormy(0, 2);
            x.set(1, 0);
            due("both are lost", x.storm(0), 2);
            due("the later place", found("ac"), 1);
        });
    }

    private static void gifts() {
        test("it is untied, and tied anew on the other belt as it reads now, with knots that are tight", () -> {
            x.set(0, 1);
            tied(0, "aeio");
            x.storm(0);
            due("its place", x.give(0, 0, 4), 0);
            due("the other belt", toldWhole(4), "bfjp");
            due("what it takes", x.name(4, 0, 1), 4 + 6 + 8 + 12 + 2);
            due("what is left there", x.fisher(4, 2), 60 - 32);
            due("what is left here", x.fisher(0, 2), 60);
            due("names here", x.fisher(0, 1), 0);
            for (int k = 0; k < 4; k++) {
                due("as tied", x.knot(4, 0, k, 0), new int[] {1, 5, 9, 15}[k]);
                due("tight", x.knot(4, 0, k, 2), 0);
            }
        });
        test("it cannot be given for reason 1 of the other belt: 6 names", () -> {
            tied(0, "aa");
            x.belt(1, 120);
            tiedAll(1, "a", "b", "c", "d", "f");
            due("five", x.noGift(0, 0, 1), 0);
            tied(1, "g");
            looked("six", () -> x.noGift(0, 0, 1), 1);
            refused("give(0, 0, 1)", STATE, () -> x.give(0, 0, 1));
            x.cut(1, 5);
            due("its place", x.give(0, 0, 1), 5);
        });
        test("it cannot be given for reason 2 of the other belt: what it takes as it reads now", () -> {
            x.set(0, 1);
            tied(0, "ao"); // takes 16 as tied, 18 as it reads
            x.storm(0);
            tied(1, "a");
            x.belt(1, 22);
            looked("18 on 17", () -> x.noGift(0, 0, 1), 2);
            refused("give(0, 0, 1)", STATE, () -> x.give(0, 0, 1));
            x.belt(1, 23);
            due("18 on 18", x.noGift(0, 0, 1), 0);
            due("its place", x.give(0, 0, 1), 1);
            due("nothing is left", x.fisher(1, 2), 0);
        });
        test("it cannot be given for reason 3 of the other belt: the same name", () -> {
            x.set(0, 1);
            tied(0, "ab");
            tied(1, "ab");
            looked("the same", () -> x.noGift(0, 0, 1), 3);
            refused("give(0, 0, 1)", STATE, () -> x.give(0, 0, 1));
            x.storm(0);
            due("bb on ab", x.noGift(0, 0, 1), 0);
            x.storm(1);
            due("bb on what reads as bb", x.noGift(0, 0, 1), 3);
            x.fast(1, 0);
            due("bb on bb", x.noGift(0, 0, 1), 3);
        });
        test("it cannot be given for the first of the reasons 1 to 3 of the other belt", () -> {
            tied(0, "anna");
            x.belt(1, 33);
            tied(1, "anna");
            due("2 and 3", x.noGift(0, 0, 1), 2);
            x.belt(1, 120);
            due("3", x.noGift(0, 0, 1), 3);
            tiedAll(1, "a", "b", "c", "d", "f");
            due("1 and 3", x.noGift(0, 0, 1), 1);
            x.belt(1, 120 - x.fisher(1, 2));
            due("1, 2 and 3", x.noGift(0, 0, 1), 1);
        });
        test("or 4: it has a knot that reads as \"?\"", () -> {
            weather(9, 8);
            tied(0, "baaaaaaa");
            stormy(0, 9);
            due("all loosened once", toldWhole(0), "bbbbbbbb");
            due("all can be read", x.noGift(0, 0, 1), 0);
            x.storm(0);
            due("the last one not", toldWhole(0), "bbbbbbb?");
            looked("one of eight", () -> x.noGift(0, 0, 1), 4);
            refused("give(0, 0, 1)", STATE, () -> x.give(0, 0, 1));
        });
        test("4: a knot that reads as \"?\" in the first place, and the only one", () -> {
            weather(2, 8);
            tiedAll(0, "ab", "e");
            stormy(0, 3);
            due("the belt", toldWhole(0), "?b-?");
            due("the first of two", x.noGift(0, 0, 1), 4);
            due("the only one", x.noGift(0, 1, 1), 4);
        });
        test("4: that is asked first", () -> {
            weather(1, 8);
            tied(0, "a");
            stormy(0, 2);
            x.belt(1, 30);
            tiedAll(1, "aa", "aaa");
            due("4", x.noGift(0, 0, 1), 4);
            x.belt(1, 20);
            due("4 and 2", x.noGift(0, 0, 1), 4);
            x.belt(1, 120);
            tiedAll(1, "b", "c", "d", "f");
            due("4 and 1", x.noGift(0, 0, 1), 4);
        });
        test("or 5: both fishers are the same", () -> {
            tied(0, "a");
            looked("the same", () -> x.noGift(0, 0, 0), 5);
            refused("give(0, 0, 0)", STATE, () -> x.give(0, 0, 0));
            tied(4, "a");
            due("the last one", x.noGift(4, 0, 4), 5);
            due("others", x.noGift(4, 0, 3), 0);
        });
        test("5: that is asked ahead of all", () -> {
            weather(1, 8);
            x.belt(0, 120);
            tiedAll(0, "a", "b", "c", "d", "f", "g");
            x.belt(0, 120 - x.fisher(0, 2));
            due("5, 1, 2 and 3", x.noGift(0, 1, 0), 5);
            stormy(0, 2);
            due("5, 4, 1 and 2", x.noGift(0, 0, 0), 5);
        });
    }

    private static void cord() {
        test("what is tied is told by names, and by letters; both agree, and what was tied, less what was untied", () -> {
            weather(1, 0);
            cordIs("of a new object", 0);
            tied(0, "anna");
            cordIs("behind tie", 28);
            tied(1, "ab");
            cordIs("behind another tie", 37);
            x.storm(0);
            x.storm(1);
            cordIs("behind storms", 37);
            x.fast(0, 0);
            cordIs("with what tightening takes more", 39);
            x.give(1, 0, 2);
            cordIs("behind a gift that takes 1 more", 40);
            x.cut(0, 0);
            cordIs("less what was untied", 10);
            tied(3, "ee");
            stormy(3, 2);
            cordIs("less what was lost", 10);
            x.cut(2, 0);
            cordIs("of empty belts", 0);
            x.undo();
            cordIs("undone", 10);
        });
        test("told in two ways: full belts", () -> {
            for (int f = 0; f < 5; f++) {
                x.belt(f, 120);
                tiedAll(f, "pppppppp", "mo");
                due("left", x.fisher(f, 2), 0);
            }
            cordIs("of five full belts", 600);
        });
        test("told in two ways: what a lost name took is what it took last", () -> {
            weather(2, 0);
            tied(0, "oa");
            x.storm(0);
            x.fast(0, 0);
            cordIs("tightened", 2 + 12 + 3);
            x.set(0, 1);
            stormy(0, 2);
            due("names", x.count(0), 0);
            cordIs("lost", 0);
        });
    }

    private static void settings() {
        test("setting 0: 1 to 9", () -> {
            range("set(0, value)", ARGUMENT, 1, 9, value -> x.set(0, value));
            due("the latest value", x.count(11), 9);
        });
        test("setting 0: at first 3", () -> {
            due("count(11)", x.count(11), 3);
            due("the previous value", x.set(0, 1), 3);
        });
        test("setting 1: 0 to 8", () -> {
            range("set(1, value)", ARGUMENT, 0, 8, value -> x.set(1, value));
            due("the latest value", x.count(12), 8);
        });
        test("setting 1: at first 1", () -> {
            due("count(12)", x.count(12), 1);
            due("the previous value", x.set(1, 0), 1);
        });
    }

    private static void buffer() {
        test("the buffer has at most 60 characters", () -> {
            due("of a new object", bufferLength(), 0);
            for (int length = 1; length <= 60; length++) {
                due("append", x.append('~'), length);
            }
            refused("the 61st", STATE, () -> x.append('~'));
            due("the length", x.clearBuffer(), 60);
            due("from 0 again", x.append('!'), 1);
        });
        test("a buffer of 60 characters can be works", () -> {
            String works = "tie0:abcdefgh;tie1:abcdefgh;tie2:abcdefgh;tie3:abcdefgh;cut0";
            typeAnew(works);
            due("no error yet", x.firstError(), 60);
            refused("not complete works", ARGUMENT, x::work);
            typeAnew("tie0:abcdefgh;tie1:abcdefgh;tie2:abcdefgh;tie3:abcdef;cut0/0");
            due("no error", x.firstError(), 60);
            due("five parts", x.work(), 5);
            due("names", x.count(0), 3);
        });
    }

    private static void errorAt(int index, String text) {
        typeAnew(text);
        looked("firstError() of '" + text + "'", x::firstError, index);
    }

    private static void complete(String text) {
        errorAt(text.length(), text);
        x.work();
        due("the buffer behind work() of '" + text + "'", bufferLength(), 0);
    }

    private static void incomplete(String text) {
        errorAt(text.length(), text);
        refused("work() of '" + text + "'", ARGUMENT, x::work);
    }

    private static void works() {
        test("works as a text are one or more parts", () -> {
            incomplete("");
            complete("storm0");
            complete("storm0;storm0");
            complete("cut0/0;cut0/0;cut0/0;cut0/0;cut0/0;cut0/0;cut0/0;cut0/0");
        });
        test("with \";\" between them", () -> {
            errorAt(0, ";");
            incomplete("storm0;");
            errorAt(7, "storm0;;");
            errorAt(6, "storm0,");
            errorAt(6, "storm0storm1");
            errorAt(7, "storm0;0");
            errorAt(7, "storm0;:");
        });
        test("each a word", () -> {
            for (String word : new String[] {"tie", "storm", "give", "fast", "cut"}) {
                for (int length = 1; length <= word.length(); length++) {
                    incomplete(word.substring(0, length));
                    errorAt(length - 1, word.substring(0, length - 1) + "~");
                    errorAt(length - 1, word.substring(0, length - 1) + "Z");
                }
            }
        });
        test("each a word: of no other letter begins one", () -> {
            for (char code = 33; code <= 126; code++) {
                errorAt("tsgfc".indexOf(code) < 0 ? 0 : 1, String.valueOf(code));
            }
        });
        test("\"tie\", a fisher, 0 to 4, \":\", and 1 to 8 letters: the fisher", () -> {
            errorAt(3, "tie/");
            incomplete("tie0");
            incomplete("tie4");
            errorAt(3, "tie5");
            errorAt(3, "tie:");
            errorAt(4, "tie0a");
            errorAt(4, "tie0;");
            errorAt(4, "tie00");
        });
        test("\"tie\", a fisher, 0 to 4, \":\", and 1 to 8 letters: the letters", () -> {
            incomplete("tie0:");
            errorAt(5, "tie0:;");
            errorAt(5, "tie0:`");
            complete("tie0:a");
            complete("tie0:p");
            errorAt(5, "tie0:q");
            errorAt(5, "tie0:A");
            complete("tie0:aaaaaaaa");
            errorAt(13, "tie0:aaaaaaaaa");
            errorAt(12, "tie0:aaaaaaaq");
            incomplete("tie0:aaaaaaaa;");
            incomplete("tie0:a;");
            complete("tie0:aaaaaaaa;tie0:b");
        });
        test("\"storm\" and a fisher", () -> {
            errorAt(5, "storm/");
            complete("storm0");
            complete("storm4");
            errorAt(5, "storm5");
            errorAt(6, "storm0/");
            errorAt(6, "storm00");
            errorAt(6, "storm0:");
        });
        test("\"give\", a fisher, \"/\", a name, 0 to 5, \">\", and a fisher", () -> {
            errorAt(4, "give/");
            errorAt(4, "give5");
            incomplete("give4");
            errorAt(5, "give0:");
            errorAt(5, "give0>");
            errorAt(6, "give0//");
            errorAt(6, "give0/6");
            incomplete("give0/5");
            errorAt(7, "give0/0;");
            errorAt(7, "give0/0<");
            errorAt(7, "give0/00");
            errorAt(8, "give0/0>/");
            errorAt(8, "give0/0>5");
            incomplete("give0/0>");
            complete("give0/0>0");
            complete("give4/5>4");
            errorAt(9, "give0/0>00");
        });
        test("\"fast\", a fisher, \"/\", and a name", () -> {
            errorAt(4, "fast/");
            errorAt(4, "fast5");
            incomplete("fast4");
            errorAt(5, "fast0;");
            errorAt(6, "fast0//");
            errorAt(6, "fast0/6");
            incomplete("fast0/");
            complete("fast0/0");
            complete("fast4/5");
            errorAt(7, "fast0/0>");
            errorAt(7, "fast0/00");
        });
        test("or \"cut\", a fisher, \"/\", and a name", () -> {
            errorAt(3, "cut/");
            errorAt(3, "cut5");
            incomplete("cut4");
            errorAt(4, "cut0;");
            errorAt(5, "cut0//");
            errorAt(5, "cut0/6");
            incomplete("cut0/");
            complete("cut0/0");
            complete("cut4/5");
            errorAt(6, "cut0/0>");
            errorAt(6, "cut0/00");
        });
        test("a name, 0 to 5 (by its place on the belt)", () -> {
            x.belt(0, 120);
            tiedAll(0, "b", "c", "d", "f", "g", "h");
            due("the first and the last", worked("give0/5>1;cut0/0;give0/3>1;cut0/0"), 4);
            due("belt 0", toldWhole(0), "d-f");
            due("belt 1", toldWhole(1), "h-g");
        });
        test("\"fast\" (it is tightened), by its place on the belt", () -> {
            weather(1, 8);
            tiedAll(0, "ab", "ac", "ad");
            tied(1, "ae");
            x.storm(0);
            x.storm(1);
            due("one part", worked("fast0/1"), 1);
            due("the first stays loose", x.knot(0, 0, 0, 2), 1);
            due("the second is tight", x.knot(0, 1, 0, 2), 0);
            due("the second as it read", x.knot(0, 1, 0, 0), 1);
            due("the third stays loose", x.knot(0, 2, 0, 2), 1);
            due("one of another belt stays loose", x.knot(1, 0, 0, 2), 1);
            due("cord", x.count(4), 9 + 11 + 11 + 10);
        });
        test("\"cut\" (it is untied), by its place on the belt", () -> {
            tiedAll(0, "a", "b", "c");
            tied(1, "d");
            due("one part", worked("cut0/1"), 1);
            due("belt 0", toldWhole(0), "a-c");
            due("belt 1", toldWhole(1), "d");
            due("none is lost", x.count(7), 0);
            due("none is given", x.count(8), 0);
        });
        test("each part does what its word says, and nothing else", () -> {
            x.set(0, 1);
            tiedAll(0, "cd", "ab");
            due("a storm", worked("storm0"), 1);
            due("loosened", toldWhole(0), "cd-bb");
            due("loose, not tightened", x.count(5), 1);
            due("a gift", worked("give0/0>3"), 1);
            due("belt 0", toldWhole(0), "bb");
            due("belt 3", toldWhole(3), "cd");
            due("loose", x.count(5), 1);
            due("storms", x.count(1), 1);
            due("another name", worked("tie4:a"), 1);
            due("storms", x.count(1), 1);
            due("names", x.count(0), 3);
            worked("storm2;give0/3>1");
            cordIs("behind a stop", 9 + 13 + 5);
        });
        test("a syntax error, if no works of any length begin with the characters before it and this character", () -> {
            errorAt(60, "storm0;storm0;storm0;storm0;storm0;storm0;storm0;storm0;tie0");
            errorAt(59, "storm0;storm0;storm0;storm0;storm0;storm0;storm0;storm0;tie~");
            errorAt(0, "~;storm0");
            errorAt(6, "storm0~~storm5");
        });
    }

    private static void undo() {
        test("each method that is marked \"undoable\" saves the state from before it", () -> {
            tied(0, "ab");
            x.set(0, 1);
            x.storm(0);
            x.keep();
            undone("tie", () -> tied(0, "c"));
            undone("cut", () -> x.cut(0, 0));
            undone("fast", () -> x.fast(0, 0));
            undone("give", () -> x.give(0, 0, 1));
            undone("storm", () -> x.storm(0));
            undone("belt", () -> x.belt(0, 90));
            undone("set", () -> x.set(1, 3));
            undone("work", () -> worked("tie2:p;storm2;cut3/0"));
            undone("restore", x::restore);
        });
        test("also if it changes nothing", () -> {
            tied(0, "b");
            x.keep();
            undone("fast", () -> x.fast(0, 0));
            undone("belt", () -> x.belt(0, 60));
            undone("set", () -> x.set(0, 3));
            undone("work", () -> worked("cut1/0"));
            undone("restore", x::restore);
        });
        test("each method that is not marked \"undoable\" saves nothing", () -> {
            tied(0, "a");
            x.append('a');
            x.find();
            x.whyNot(0);
            x.bestBelt();
            x.firstError();
            x.clearBuffer();
            x.stopped(0);
            x.told(0, 0);
            x.keep();
            x.letter(0, 0);
            x.knot(0, 0, 0, 0);
            x.name(0, 0, 0);
            x.fisher(0, 0);
            x.drowned(0, 0);
            x.noGift(0, 0, 1);
            x.ifStorm(0, 0);
            x.trueShare();
            x.digest();
            due("saved states", x.count(13), 1);
            due("undo()", x.undo(), 0);
            due("saved states", x.count(13), 0);
        });
        test("and does not throw an exception: it saves nothing then", () -> {
            refused("cut(0, 0)", INDEX, () -> x.cut(0, 0));
            refused("set(0, 0)", ARGUMENT, () -> x.set(0, 0));
            refused("restore()", STATE, x::restore);
            refused("undo()", STATE, x::undo);
            due("saved states", x.count(13), 0);
        });
        test("saves all, also the list and the latest stop", () -> {
            weather(1, 0);
            tied(2, "a");
            x.storm(2);
            worked("storm2;storm2;cut2/0");
            due("entries", x.count(6), 1);
            due("the stop", x.stopped(0), 2);
            due("lost", x.fisher(2, 3), 1);
            worked("storm4");
            due("no stop", x.stopped(0), -1);
            x.undo();
            due("the stop again", x.stopped(0), 2);
            due("the reason again", x.stopped(1), 6);
            x.undo();
            due("no stop", x.stopped(0), -1);
            due("no entry", x.count(6), 0);
            due("none lost", x.fisher(2, 3), 0);
            due("storms", x.count(1), 1);
            due("the belt", toldWhole(2), "b");
        });
        test("but the buffer, the saved states and the snapshot", () -> {
            tied(0, "a");
            x.keep();
            tied(0, "b");
            type("cd");
            due("undo()", x.undo(), 1);
            due("undo()", x.undo(), 0);
            due("names", x.count(0), 0);
            due("the buffer is whole", x.tie(1), 0);
            due("the buffer is whole", toldWhole(1), "cd");
            due("the snapshot is there", x.restore(), 1);
            due("the snapshot", toldWhole(0), "a");
        });
        test("at most 6 states are saved; the oldest one is dropped first", () -> {
            for (int storms = 1; storms <= 6; storms++) {
                x.storm(0);
                due("saved states", x.count(13), storms);
            }
            x.storm(0);
            due("still six", x.count(13), 6);
            x.storm(0);
            due("still six", x.count(13), 6);
            for (int left = 5; left >= 0; left--) {
                due("undo()", x.undo(), left);
                due("storms", x.count(1), left + 2);
            }
            refused("the seventh undo()", STATE, x::undo);
            due("storms", x.count(1), 2);
        });
        test("at most 6 states are saved: just six come back to the start", () -> {
            long[] digests = new long[7];
            for (int n = 0; n < 6; n++) {
                digests[n] = x.digest();
                tied(n % 5, "abcdef".substring(n, n + 1));
            }
            for (int n = 5; n >= 0; n--) {
                due("undo()", x.undo(), n);
                due("the digest", x.digest(), digests[n]);
            }
            refused("undo()", STATE, x::undo);
        });
        test("undo and new states in turn: the oldest one is dropped only when there are six", () -> {
            stormy(0, 6);
            x.undo();
            x.undo();
            due("storms", x.count(1), 4);
            stormy(0, 3);
            due("saved states", x.count(13), 6);
            for (int storms = 6; storms >= 1; storms--) {
                x.undo();
                due("storms", x.count(1), storms);
            }
            refused("undo()", STATE, x::undo);
        });
    }

    /** Six saved states, a snapshot, an entry, a stop: what a refused call could change. */
    private static long[] fullOfAll() {
        long[] digests = new long[7];
        digests[0] = x.digest();
        x.set(0, 1);
        digests[1] = x.digest();
        x.set(1, 0);
        digests[2] = x.digest();
        worked("tie0:a;tie0:b;tie1:a;storm0;storm1");
        digests[3] = x.digest();
        x.keep();
        x.storm(0);
        digests[4] = x.digest();
        worked("tie2:pp;give0/5>1");
        digests[5] = x.digest();
        x.belt(2, 26);
        digests[6] = x.digest();
        return digests;
    }

    private static void refuseAll(boolean bufferIsFull) {
        String full = bufferIsFull ? STATE : ARGUMENT;
        refused("append", full, () -> x.append(bufferIsFull ? 'a' : 127));
        refused("tie(5)", INDEX, () -> x.tie(5));
        refused("tie(0)", ARGUMENT, () -> x.tie(0));
        refused("cut(0, 1)", INDEX, () -> x.cut(0, 1));
        refused("fast(0, 1)", INDEX, () -> x.fast(0, 1));
        refused("give(0, 0, 5)", INDEX, () -> x.give(0, 0, 5));
        refused("give(0, 0, 0)", STATE, () -> x.give(0, 0, 0));
        refused("storm(5)", INDEX, () -> x.storm(5));
        refused("belt(2, 19)", ARGUMENT, () -> x.belt(2, 19));
        refused("belt(2, 25)", STATE, () -> x.belt(2, 25));
        refused("set(2, 1)", INDEX, () -> x.set(2, 1));
        refused("set(0, 0)", ARGUMENT, () -> x.set(0, 0));
        refused("work()", ARGUMENT, x::work);
        refused("stopped(2)", ARGUMENT, () -> x.stopped(2));
        refused("told(0, -1)", ARGUMENT, () -> x.told(0, -1));
        refused("letter(0, 6)", ARGUMENT, () -> x.letter(0, 6));
        refused("knot(0, 0, 8, 0)", ARGUMENT, () -> x.knot(0, 0, 8, 0));
        refused("name(0, 0, 5)", ARGUMENT, () -> x.name(0, 0, 5));
        refused("fisher(0, 5)", ARGUMENT, () -> x.fisher(0, 5));
        refused("drowned(0, 4)", ARGUMENT, () -> x.drowned(0, 4));
        refused("find()", ARGUMENT, x::find);
        refused("count(14)", ARGUMENT, () -> x.count(14));
        refused("whyNot(0)", ARGUMENT, () -> x.whyNot(0));
        refused("noGift(0, 1, 1)", INDEX, () -> x.noGift(0, 1, 1));
        refused("ifStorm(0, 2)", ARGUMENT, () -> x.ifStorm(0, 2));
        refused("bestBelt()", ARGUMENT, x::bestBelt);
    }

    private static void exceptions() {
        test("a call that throws an exception changes nothing: belts, the list, the stop and the buffer", () -> {
            fullOfAll();
            type("tie0:a;");
            refuseAll(false);
        });
        test("a call that throws an exception changes nothing: a full buffer", () -> {
            fullOfAll();
            type("storm0;storm0;storm0;storm0;storm0;storm0;storm0;storm0;tie0");
            refuseAll(true);
            due("the buffer", x.firstError(), 60);
        });
        test("a call that throws an exception changes nothing: the saved states and the snapshot", () -> {
            long[] digests = fullOfAll();
            x.append('~');
            refuseAll(false);
            x.clearBuffer();
            due("the digest", x.digest(), digests[6]);
            for (int n = 5; n >= 0; n--) {
                due("undo()", x.undo(), n);
                due("the digest behind it", x.digest(), digests[n]);
            }
            refused("undo()", STATE, x::undo);
            due("the snapshot", x.restore(), 3);
            x.restore();
            x.restore();
            due("the snapshot's digest, with as many saved states", x.digest(), digests[3]);
        });
        test("a name that cannot be tied stays in the buffer, and all stays as it is", () -> {
            fullOfAll();
            type("bp");
            due("why not", x.whyNot(2), 2);
            refused("tie(2)", STATE, () -> x.tie(2));
            due("it can be tied elsewhere", x.tie(3), 0);
            due("it is tied", toldWhole(3), "bp");
        });
        test("if several exceptions apply, the one that is named first is thrown: tie", () -> {
            x.belt(0, 120);
            tiedAll(0, "a", "b", "c", "d", "f", "g");
            typeAnew("abcdabcda");
            refused("no fisher, no name", INDEX, () -> x.tie(5));
            refused("no name, a full belt", ARGUMENT, () -> x.tie(0));
            typeAnew("a");
            refused("no fisher, a name", INDEX, () -> x.tie(-1));
            refused("a full belt", STATE, () -> x.tie(0));
        });
        test("if several exceptions apply: fast and give", () -> {
            weather(1, 8);
            tied(0, "kda"); // takes 20
            x.belt(0, 20);
            x.storm(0);
            refused("fast: no name, and the one there is cannot be tightened", INDEX, () -> x.fast(0, 1));
            refused("fast: no fisher", INDEX, () -> x.fast(5, 0));
            refused("fast: it cannot be tightened", STATE, () -> x.fast(0, 0));
            x.storm(0);
            refused("give: no other, and it cannot be read", INDEX, () -> x.give(0, 0, 5));
            refused("give: no name, and the same fisher", INDEX, () -> x.give(0, 1, 0));
            refused("give: no name, no other", INDEX, () -> x.give(0, 1, -1));
            refused("give: it cannot be read", STATE, () -> x.give(0, 0, 1));
        });
        test("if several exceptions apply: belt", () -> {
            tied(0, "pp");
            refused("no fisher, no length", INDEX, () -> x.belt(5, 19));
            refused("no fisher, no length", INDEX, () -> x.belt(-1, 121));
            refused("no length, and the names take more", ARGUMENT, () -> x.belt(0, 19));
            refused("the names take more", STATE, () -> x.belt(0, 25));
        });
        test("if several exceptions apply: set", () -> {
            refused("no setting, no value", INDEX, () -> x.set(2, 10));
            refused("no setting, no value", INDEX, () -> x.set(-1, -1));
            refused("no value", ARGUMENT, () -> x.set(1, 9));
        });
        test("if several exceptions apply: append", () -> {
            type("////////////////////////////////////////////////////////////");
            refused("no code, a full buffer", ARGUMENT, () -> x.append(32));
            refused("no code, a full buffer", ARGUMENT, () -> x.append(127));
            refused("a full buffer", STATE, () -> x.append(33));
        });
        test("if several exceptions apply: looks", () -> {
            tied(0, "a");
            refused("told: no fisher, no index", INDEX, () -> x.told(5, -1));
            refused("letter: no letter, no what", INDEX, () -> x.letter(16, 6));
            refused("knot: no fisher, no knot, no what", INDEX, () -> x.knot(5, 0, 8, 3));
            refused("knot: no name, no knot, no what", INDEX, () -> x.knot(0, 1, -1, -1));
            refused("name: no fisher, no what", INDEX, () -> x.name(-1, 0, 5));
            refused("name: no name, no what", INDEX, () -> x.name(0, 1, -1));
            refused("fisher: no fisher, no what", INDEX, () -> x.fisher(5, 5));
            refused("ifStorm: no fisher, no what", INDEX, () -> x.ifStorm(5, 2));
            typeAnew("?");
            refused("whyNot: no fisher, no name", INDEX, () -> x.whyNot(5));
            refused("whyNot: no name", ARGUMENT, () -> x.whyNot(4));
        });
    }
}
