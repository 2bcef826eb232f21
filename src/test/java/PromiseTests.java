/** For each promise of the document: ordinary inputs, the edges that it names, wrong inputs. */
public final class PromiseTests {
    private static final Tally TALLY = new Tally("promises");

    private PromiseTests() {
    }

    private static void due(String call, long got, long want) {
        TALLY.due(call, got, want);
    }

    /** Ways 0 to 1 to 2, the only target; post 3 stands alone. */
    private static RoadLinks line() {
        return Texts.made("posts 4;road 0 1;road 1 2;to 2");
    }

    /** Sets 01, 12: any two of posts 0, 1, 2 are matched; post 3 is in no set. */
    private static RoadLinks pairs() {
        return Texts.made("posts 4;set 0 1;set 1 2");
    }

    public static void main(String[] args) {
        constants();
        promise1();
        promise2();
        promise3();
        promise4();
        promise5();
        promise6();
        promise7();
        promise8();
        promise9();
        promise10();
        promise11();
        promise12();
        promise13();
        promise14();
        promise15();
        promise16();
        promise17();
        promise18();
        promise19();
        promise20();
        promise21();
        promise22();
        promise23();
        promise24();
        promise25();
        promise26();
        promise27();
        promise28();
        promise29();
        promise30();
        promise31();
        promise32();
        promise33();
        promise34();
        promise35();
        promise36();
        promise37();
        promise38();
        promise39();
        promise40();
        promise41();
        promise42();
        readFaults();
        readRefusals();
        promise43();
        promise44();
        promise45();
        promise46();
        TALLY.end();
    }

    private static void constants() {
        due("NONE", RoadLinks.NONE, -1);
        due("BAD", RoadLinks.BAD, -2);
        due("STATE", RoadLinks.STATE, -3);
        due("FULL", RoadLinks.FULL, -4);
        due("NOT", RoadLinks.NOT, -5);
        due("MISSING", RoadLinks.MISSING, -11);
        due("PLACE", RoadLinks.PLACE, -13);
        due("BELOW", RoadLinks.BELOW, -14);
    }

    private static void promise1() {
        RoadLinks x = new RoadLinks();
        due("1 count(0)", x.count(0), 1);
        for (int what = 1; what <= 6; what++) due("1 count " + what, x.count(what), 0);
        due("1 rank(2, 1)", x.rank(2, 1), 1);
        due("1 rank(0, 1)", x.rank(0, 1), 0);
        due("1 undo()", x.undo(), -3);
        for (int r = 0; r < 3; r++) due("1 lose " + r, x.lose(r), -11);
        TALLY.dueText("1 spelled", Texts.spelled(x), "posts 1");
    }

    private static void promise2() {
        RoadLinks x = Texts.made("posts 3;road 0 1;to 1;set 0 2;weigh 2 7");
        x.row(1, 4);
        x.feed('a');
        due("2 posts(0)", x.posts(0), -2);
        due("2 posts(9)", x.posts(9), -2);
        due("2 posts(-1)", x.posts(-1), -2);
        due("2 posts(min)", x.posts(Integer.MIN_VALUE), -2);
        due("2 posts(max)", x.posts(Integer.MAX_VALUE), -2);
        due("2 roads stay", x.count(1), 1);
        due("2 posts(3)", x.posts(3), 3);
        due("2 no roads", x.count(1), 0);
        due("2 no targets", x.count(2), 0);
        due("2 no sets", x.count(3), 0);
        due("2 no weights", x.count(6), 0);
        due("2 the tape stays", x.count(4), 1);
        due("2 the row stays", x.count(5), 1);
        due("2 posts(8)", x.posts(8), 3);
        due("2 posts(1)", x.posts(1), 8);
        due("2 count(0)", x.count(0), 1);
    }

    private static void promise3() {
        RoadLinks x = new RoadLinks();
        x.posts(8);
        due("3 road(7, 0, 1)", x.road(7, 0, 1), 0);
        due("3 road(7, 0, 1) again", x.road(7, 0, 1), 1);
        due("3 isRoad(0, 7)", x.isRoad(0, 7), 0);
        due("3 road(7, 0, 0)", x.road(7, 0, 0), 1);
        due("3 road(7, 0, 0) again", x.road(7, 0, 0), 0);
        due("3 count(1)", x.count(1), 0);
        due("3 road(8, 0, 1)", x.road(8, 0, 1), -1);
        due("3 road(0, 8, 1)", x.road(0, 8, 1), -1);
        due("3 road(-1, 0, 1)", x.road(-1, 0, 1), -1);
        due("3 road(0, -1, 5)", x.road(0, -1, 5), -1);
        due("3 road(2, 2, 2)", x.road(2, 2, 2), -2);
        due("3 road(2, 2, -1)", x.road(2, 2, -1), -2);
        due("3 road(2, 2, 1)", x.road(2, 2, 1), -3);
        due("3 road(2, 2, 0)", x.road(2, 2, 0), -3);
        due("3 road(8, 8, 1)", x.road(8, 8, 1), -1);
        due("3 nothing laid", x.count(1), 0);
    }

    private static void promise4() {
        RoadLinks x = line();
        due("4 isRoad(0, 1)", x.isRoad(0, 1), 1);
        due("4 isRoad(1, 0)", x.isRoad(1, 0), 0);
        due("4 isRoad(3, 3)", x.isRoad(3, 3), 0);
        due("4 isRoad(4, 0)", x.isRoad(4, 0), -1);
        due("4 isRoad(0, 4)", x.isRoad(0, 4), -1);
        due("4 isRoad(-1, 0)", x.isRoad(-1, 0), -1);
        due("4 isRoad(0, min)", x.isRoad(0, Integer.MIN_VALUE), -1);
    }

    private static void promise5() {
        RoadLinks x = line();
        due("5 targets(9)", x.targets(9), 4);
        due("5 targets(16)", x.targets(16), -2);
        due("5 targets(-1)", x.targets(-1), -2);
        due("5 targets(15)", x.targets(15), 9);
        due("5 targets(0)", x.targets(0), 15);
        due("5 count(2)", x.count(2), 0);
        due("5 rank without targets", x.rank(0, 15), 0);
    }

    private static void promise6() {
        RoadLinks x = line();
        due("6 weigh(3, 99)", x.weigh(3, 99), 0);
        due("6 weigh(3, 100)", x.weigh(3, 100), -2);
        due("6 weigh(3, -1)", x.weigh(3, -1), -2);
        due("6 weigh(4, 100)", x.weigh(4, 100), -1);
        due("6 weigh(-1, 1)", x.weigh(-1, 1), -1);
        due("6 weigh(3, 0)", x.weigh(3, 0), 99);
        due("6 count(6)", x.count(6), 0);
    }

    private static void promise7() {
        RoadLinks x = new RoadLinks();
        x.posts(2);
        for (int k = 0; k < 8; k++) due("7 add", x.add(k % 4), k);
        due("7 add(4) when full", x.add(4), -2);
        due("7 add(-1) when full", x.add(-1), -2);
        due("7 add(0) when full", x.add(0), -4);
        due("7 count(3)", x.count(3), 8);
        due("7 set(5)", x.set(5), 1);
    }

    private static void promise8() {
        RoadLinks x = pairs();
        due("8 change(1, 9)", x.change(1, 9), 6);
        due("8 set(1)", x.set(1), 9);
        due("8 change(1, 0)", x.change(1, 0), 9);
        due("8 change(2, 99)", x.change(2, 99), -1);
        due("8 change(-1, 0)", x.change(-1, 0), -1);
        due("8 change(0, 16)", x.change(0, 16), -2);
        due("8 change(0, -1)", x.change(0, -1), -2);
        due("8 set(0)", x.set(0), 3);
        due("8 rank", x.rank(1, 15), 1);
    }

    private static void promise9() {
        RoadLinks x = Texts.made("posts 4;set 0;set 1;set 2;set 3");
        due("9 drop(1)", x.drop(1), 3);
        due("9 set(0)", x.set(0), 1);
        due("9 set(1)", x.set(1), 4);
        due("9 set(2)", x.set(2), 8);
        due("9 drop(3)", x.drop(3), -1);
        due("9 drop(-1)", x.drop(-1), -1);
        due("9 drop(2)", x.drop(2), 2);
        due("9 rank", x.rank(1, 15), 2);
        due("9 drop(0)", x.drop(0), 1);
        due("9 drop(0)", x.drop(0), 0);
        due("9 drop(0) of none", x.drop(0), -1);
    }

    private static void promise10() {
        RoadLinks x = pairs();
        due("10 set(0)", x.set(0), 3);
        due("10 set(1)", x.set(1), 6);
        due("10 set(2)", x.set(2), -1);
        due("10 set(-1)", x.set(-1), -1);
        x.add(0);
        due("10 set without posts", x.set(2), 0);
    }

    private static void promise11() {
        RoadLinks x = line();
        due("11 rank(0, 0)", x.rank(0, 0), 0);
        due("11 rank(0, 1)", x.rank(0, 1), 1);
        due("11 rank(0, 7)", x.rank(0, 7), 1);
        due("11 rank(0, 8)", x.rank(0, 8), 0);
        due("11 rank(2, 7)", x.rank(2, 7), 2);
        due("11 rank(2, 8)", x.rank(2, 8), 1);
        due("11 rank(2, 15)", x.rank(2, 15), 3);
        due("11 rank(1, 15)", x.rank(1, 15), 0);
        due("11 rank(3, 15)", x.rank(3, 15), 4);
        due("11 rank(4, 16)", x.rank(4, 16), -1);
        due("11 rank(-1, 0)", x.rank(-1, 0), -1);
        due("11 rank(0, 16)", x.rank(0, 16), -2);
        due("11 rank(3, -1)", x.rank(3, -1), -2);
        RoadLinks y = pairs();
        due("11 rank(1, 7)", y.rank(1, 7), 2);
        due("11 rank(1, 12)", y.rank(1, 12), 1);
        due("11 rank(3, 7)", y.rank(3, 7), 1);
        due("11 rank(3, 15)", y.rank(3, 15), 2);
        // Two ways that cross in post 2 can't both be gone; a way around post 2 frees them.
        RoadLinks z = Texts.made("posts 8;road 0 2;road 1 2;road 2 6;road 2 7;to 6;to 7");
        due("11 crossing ways", z.rank(0, 3), 1);
        z.road(1, 5, 1);
        z.road(5, 7, 1);
        due("11 ways that meet nowhere", z.rank(0, 3), 2);
        due("11 the middle is a target", z.targets(192 | 4), 192);
        due("11 three ways", z.rank(0, 7), 2);
        due("11 three targets", z.rank(0, 255), 3);
    }

    private static void promise12() {
        RoadLinks x = line();
        due("12 free(0, 0)", x.free(0, 0), 1);
        due("12 free(0, 4)", x.free(0, 4), 1);
        due("12 free(0, 3)", x.free(0, 3), 0);
        due("12 free(0, 8)", x.free(0, 8), 0);
        due("12 free(2, 11)", x.free(2, 11), 1);
        due("12 free(2, 7)", x.free(2, 7), 0);
        due("12 free(4, 16)", x.free(4, 16), -1);
        due("12 free(0, 16)", x.free(0, 16), -2);
        due("12 free(0, -1)", x.free(0, -1), -2);
        RoadLinks y = pairs();
        due("12 free(1, 5)", y.free(1, 5), 1);
        due("12 free(1, 7)", y.free(1, 7), 0);
        due("12 free(3, 9)", y.free(3, 9), 1);
        due("12 free(3, 3)", y.free(3, 3), 0);
    }

    private static void list(String name, java.util.function.IntUnaryOperator call, int... wanted) {
        due(name + " how many", call.applyAsInt(-1), wanted.length);
        for (int k = 0; k < wanted.length; k++) due(name + " number " + k, call.applyAsInt(k), wanted[k]);
        due(name + " behind the last", call.applyAsInt(wanted.length), -1);
        due(name + " far behind", call.applyAsInt(Integer.MAX_VALUE), -1);
        due(name + " ahead", call.applyAsInt(-2), -1);
        due(name + " far ahead", call.applyAsInt(Integer.MIN_VALUE), -1);
    }

    private static void promise13() {
        RoadLinks x = line();
        list("13 bases 0", k -> x.base(0, k), 1, 2, 4);
        list("13 bases 1", k -> x.base(1, k), 0);
        list("13 bases 2", k -> x.base(2, k), 11, 13, 14);
        list("13 bases 3", k -> x.base(3, k), 15);
        RoadLinks y = pairs();
        list("13 bases of pairs", k -> y.base(1, k), 3, 5, 6);
        list("13 bases of their dual", k -> y.base(3, k), 9, 10, 12);
        due("13 base(4, 0)", x.base(4, 0), -1);
        due("13 base(-1, -1)", x.base(-1, -1), -1);
    }

    private static void promise14() {
        RoadLinks x = line();
        list("14 circuits 0", k -> x.circuit(0, k), 3, 5, 6, 8);
        list("14 circuits 1", k -> x.circuit(1, k), 1, 2, 4, 8);
        list("14 circuits 2", k -> x.circuit(2, k), 7);
        list("14 circuits 3", k -> x.circuit(3, k));
        RoadLinks y = pairs();
        list("14 circuits of pairs", k -> y.circuit(1, k), 7, 8);
        due("14 circuit(4, -1)", x.circuit(4, -1), -1);
    }

    private static void promise15() {
        RoadLinks x = line();
        list("15 flats 0", k -> x.flat(0, k), 8, 15);
        list("15 flats 1", k -> x.flat(1, k), 15);
        list("15 flats 2", k -> x.flat(2, k), 0, 1, 2, 4, 7, 8, 9, 10, 12, 15);
        RoadLinks y = pairs();
        list("15 flats of pairs", k -> y.flat(1, k), 8, 9, 10, 12, 15);
        due("15 flat(4, 0)", x.flat(4, 0), -1);
    }

    private static void promise16() {
        RoadLinks x = line();
        due("16 shut(0, 0)", x.shut(0, 0), 8);
        due("16 shut(0, 1)", x.shut(0, 1), 15);
        due("16 shut(2, 3)", x.shut(2, 3), 7);
        due("16 shut(2, 1)", x.shut(2, 1), 1);
        due("16 shut(4, 16)", x.shut(4, 16), -1);
        due("16 shut(0, 16)", x.shut(0, 16), -2);
        due("16 shut(0, -1)", x.shut(0, -1), -2);
        due("16 shut of pairs", pairs().shut(1, 5), 15);
    }

    private static void promise17() {
        RoadLinks x = line();
        due("17 loops(0, 0)", x.loops(0, 0), 8);
        due("17 loops(0, 1)", x.loops(0, 1), 0);
        due("17 loops(2, 0)", x.loops(2, 0), 0);
        due("17 loops(2, 1)", x.loops(2, 1), 8);
        due("17 loops(1, 0)", x.loops(1, 0), 15);
        due("17 loops(3, 1)", x.loops(3, 1), 15);
        due("17 loops(0, 2)", x.loops(0, 2), -1);
        due("17 loops(0, -1)", x.loops(0, -1), -1);
        due("17 loops(4, 0)", x.loops(4, 0), -1);
        RoadLinks y = Texts.made("posts 3;set 1;set 0 2");
        due("17 bound by the family", y.loops(1, 1), 2);
        due("17 loops of its dual", y.loops(3, 0), 2);
    }

    private static void promise18() {
        RoadLinks x = pairs();
        due("18 round(1, 3, 2)", x.round(1, 3, 2), 7);
        due("18 round(1, 3, 3)", x.round(1, 3, 3), 8);
        due("18 round(1, 3, 0)", x.round(1, 3, 0), -5);
        due("18 round(1, 1, 2)", x.round(1, 1, 2), -5);
        due("18 round(1, 7, 3)", x.round(1, 7, 3), -5);
        due("18 round(4, 16, 4)", x.round(4, 16, 4), -1);
        due("18 round(1, 16, 4)", x.round(1, 16, 4), -1);
        due("18 round(1, 3, -1)", x.round(1, 3, -1), -1);
        due("18 round(1, 16, 0)", x.round(1, 16, 0), -2);
        due("18 round(1, -1, 0)", x.round(1, -1, 0), -2);
        RoadLinks y = Texts.made("posts 4;set 0 1;set 2 3");
        due("18 round within one set", y.round(1, 5, 1), 3);
        due("18 round within the other", y.round(1, 5, 3), 12);
        due("18 round by ways", line().round(0, 4, 0), 5);
    }

    private static void promise19() {
        RoadLinks x = Texts.made("posts 4;set 0 1 2 3;set 0 1 2 3");
        due("19 swap(1, 3, 12, 0)", x.swap(1, 3, 12, 0), 2);
        due("19 swap(1, 12, 3, 3)", x.swap(1, 12, 3, 3), 0);
        due("19 swap(1, 3, 3, 0)", x.swap(1, 3, 3, 0), -5);
        due("19 swap(1, 3, 12, 2)", x.swap(1, 3, 12, 2), -5);
        due("19 swap(1, 1, 12, 0)", x.swap(1, 1, 12, 0), -5);
        due("19 swap(1, 3, 8, 0)", x.swap(1, 3, 8, 0), -5);
        due("19 swap(4, 16, 16, 4)", x.swap(4, 16, 16, 4), -1);
        due("19 swap(1, 16, 16, 4)", x.swap(1, 16, 16, 4), -1);
        due("19 swap(1, 3, 12, -1)", x.swap(1, 3, 12, -1), -1);
        due("19 swap(1, 16, 12, 0)", x.swap(1, 16, 12, 0), -2);
        due("19 swap(1, 3, -1, 0)", x.swap(1, 3, -1, 0), -2);
        RoadLinks y = Texts.made("posts 4;set 0 1;set 2 3");
        // Post 2 comes first, but without 0 only post 1 makes a base again.
        due("19 the least that makes a base", y.swap(1, 9, 6, 3), 2);
        due("19 not the least of all", y.swap(1, 5, 10, 2), 3);
    }

    private static void promise20() {
        RoadLinks x = line();
        due("20 steps(0)", x.steps(0), 3);
        due("20 steps(1)", x.steps(1), 0);
        due("20 steps(2)", x.steps(2), 3);
        due("20 steps(4)", x.steps(4), -1);
        due("20 steps(-1)", x.steps(-1), -1);
        // Bases 5, 6, 9, 10: 5 and 10, 6 and 9 differ by two posts each.
        due("20 steps of a square", Texts.made("posts 4;set 0 1;set 2 3").steps(1), 4);
    }

    private static void promise21() {
        RoadLinks x = pairs();
        due("21 less(1, 0, 0, 7)", x.less(1, 0, 0, 7), 2);
        due("21 less(1, 0, 1, 6)", x.less(1, 0, 1, 6), 1);
        due("21 less(1, 0, 3, 4)", x.less(1, 0, 3, 4), 0);
        due("21 less(1, 1, 2, 12)", x.less(1, 1, 2, 12), 1);
        due("21 less(1, 1, 2, 4) of the dual", x.less(3, 1, 2, 4), 0);
        due("21 less(4, 16, 0, 0)", x.less(4, 16, 0, 0), -1);
        due("21 less(1, 16, 0, 0)", x.less(1, 16, 0, 0), -2);
        due("21 less(1, 0, 16, 0)", x.less(1, 0, 16, 0), -2);
        due("21 less(1, 0, 0, 16)", x.less(1, 0, 0, 16), -2);
        due("21 less(1, -1, 0, 0)", x.less(1, -1, 0, 0), -2);
        due("21 less(1, 3, 2, 4)", x.less(1, 3, 2, 4), -2);
        due("21 less(1, 3, 4, 2)", x.less(1, 3, 4, 2), -2);
        due("21 less(1, 8, 3, 2)", x.less(1, 8, 3, 2), -2);
    }

    private static void promise22() {
        RoadLinks x = pairs();
        due("22 of like ones the least", x.heaviest(1, 0), 3);
        due("22 no weights", x.heaviest(1, 1), 0);
        x.weigh(2, 9);
        x.weigh(3, 90);
        due("22 heaviest(1, 0)", x.heaviest(1, 0), 5);
        due("22 heaviest(1, 1)", x.heaviest(1, 1), 9);
        due("22 heaviest(3, 0)", x.heaviest(3, 0), 12);
        due("22 heaviest(3, 1)", x.heaviest(3, 1), 99);
        due("22 heaviest(0, 0)", x.heaviest(0, 0), 0);
        due("22 heaviest(0, 1)", x.heaviest(0, 1), 0);
        due("22 heaviest(2, 1)", x.heaviest(2, 1), 99);
        due("22 heaviest(1, 2)", x.heaviest(1, 2), -1);
        due("22 heaviest(1, -1)", x.heaviest(1, -1), -1);
        due("22 heaviest(4, 0)", x.heaviest(4, 0), -1);
    }

    private static void promise23() {
        RoadLinks x = line();
        due("23 alike(0, 0)", x.alike(0, 0), -5);
        due("23 alike(0, 1)", x.alike(0, 1), 1);
        due("23 alike(0, 2)", x.alike(0, 2), 3);
        due("23 alike(2, 0)", x.alike(2, 0), 3);
        due("23 alike(0, 4)", x.alike(0, 4), -1);
        due("23 alike(-1, 0)", x.alike(-1, 0), -1);
        x.add(7);
        due("23 the same bases", x.alike(0, 1), -5);
        due("23 the same duals", x.alike(2, 3), -5);
    }

    private static void promise24() {
        RoadLinks x = line();
        due("24 cut(0)", x.cut(0), 0);
        due("24 cut(1)", x.cut(1), 1);
        due("24 cut(2)", x.cut(2), 2);
        due("24 cut(4)", x.cut(4), 4);
        due("24 cut(8)", x.cut(8), 0);
        due("24 cut(3)", x.cut(3), 2);
        due("24 cut(15)", x.cut(15), 4);
        due("24 cut(16)", x.cut(16), -2);
        due("24 cut(-1)", x.cut(-1), -2);
        RoadLinks y = Texts.made("posts 6;road 0 2;road 1 3;road 2 4;road 3 5;road 2 5;to 4;to 5");
        due("24 two ways", y.cut(3), 3);
        due("24 one way", y.cut(1), 1);
        due("24 a bottleneck behind", y.cut(15), 12);
    }

    private static void promise25() {
        RoadLinks x = line();
        due("25 reach(1)", x.reach(1), 7);
        due("25 reach(2)", x.reach(2), 6);
        due("25 reach(8)", x.reach(8), 8);
        due("25 reach(0)", x.reach(0), 0);
        due("25 reach(12)", x.reach(12), 12);
        due("25 reach(16)", x.reach(16), -2);
        due("25 reach(-1)", x.reach(-1), -2);
        RoadLinks y = Texts.made("posts 8;road 7 6;road 6 5;road 5 4;road 4 3;road 3 2;road 2 1;road 1 0");
        due("25 the longest way", y.reach(128), 255);
        y.road(0, 7, 1);
        due("25 around", y.reach(8), 255);
    }

    private static void promise26() {
        RoadLinks x = pairs();
        due("26 partners(0)", x.partners(0), 0);
        due("26 partners(1)", x.partners(1), 1);
        due("26 partners(2)", x.partners(2), 1);
        due("26 partners(4)", x.partners(4), 2);
        due("26 partners(3)", x.partners(3), 12);
        due("26 partners(6)", x.partners(6), 12);
        due("26 partners(7)", x.partners(7), -5);
        due("26 partners(8)", x.partners(8), -5);
        due("26 partners(16)", x.partners(16), -2);
        due("26 partners(-1)", x.partners(-1), -2);
        RoadLinks y = Texts.made("posts 3;set 0 1;set 0;set 0 2");
        due("26 the least post gives way", y.partners(3), 21);
        due("26 all posts", y.partners(7), 213);
        RoadLinks z = Texts.made("posts 8;set 7;set 6 7;set 5 6;set 4 5;set 3 4;set 2 3;set 1 2", "set 0 1");
        due("26 eight posts", z.partners(255), 87654321);
    }

    private static void promise27() {
        RoadLinks x = Texts.made("posts 4;road 3 0;road 0 1;road 1 2;road 2 0;to 2;set 0;set 1;set 3");
        due("27 turned()", x.turned(), 3);
        due("27 set(0)", x.set(0), 3);
        due("27 set(1)", x.set(1), 6);
        due("27 set(2)", x.set(2), 9);
        due("27 set(3)", x.set(3), -1);
        due("27 the dual of the roads", x.alike(1, 2), -5);
        due("27 the roads stay", x.count(1), 4);
        x.targets(15);
        due("27 all are targets", x.turned(), 0);
        due("27 no sets", x.count(3), 0);
        x.posts(8);
        due("27 none is a target", x.turned(), 8);
        due("27 a post without roads", x.set(7), 128);
    }

    private static void promise28() {
        RoadLinks x = Texts.made("posts 4;road 3 0;road 2 1;to 0;set 0 1;set 0;set 0 2 3");
        due("28 strict()", x.strict(), 3);
        due("28 isRoad(1, 0)", x.isRoad(1, 0), 1);
        due("28 isRoad(2, 0)", x.isRoad(2, 0), 1);
        due("28 isRoad(2, 3)", x.isRoad(2, 3), 1);
        due("28 isRoad(3, 0)", x.isRoad(3, 0), 0);
        due("28 isRoad(2, 1)", x.isRoad(2, 1), 0);
        due("28 targets", x.count(2), 8);
        due("28 the dual of the family", x.alike(0, 3), -5);
        due("28 the family stays", x.count(3), 3);
        x.add(3);
        due("28 it can not be", x.strict(), -3);
        due("28 roads stay", x.count(1), 3);
        due("28 targets stay", x.count(2), 8);
        x.change(3, 0);
        due("28 a set without posts", x.strict(), -3);
        RoadLinks y = new RoadLinks();
        y.posts(3);
        y.road(0, 1, 1);
        due("28 no sets", y.strict(), 0);
        due("28 no roads", y.count(1), 0);
        due("28 all posts are targets", y.count(2), 7);
    }

    private static void promise29() {
        RoadLinks x = Texts.made("posts 3;set 0 1 2;set 0 1 2;set 0 1 2");
        due("29 spare(0)", x.spare(0), 7);
        x.change(0, 1);
        due("29 spare(0) with one post", x.spare(0), 0);
        due("29 spare(1)", x.spare(1), 7);
        due("29 spare(3)", x.spare(3), -1);
        due("29 spare(-1)", x.spare(-1), -1);
        due("29 nothing changes", x.set(1), 7);
        RoadLinks y = Texts.made("posts 3;set 0 1;set 1 2");
        due("29 spare of pairs", y.spare(0), 0);
        y.add(0);
        due("29 of no posts", y.spare(2), 0);
    }

    private static void promise30() {
        RoadLinks x = Texts.made("posts 3;set 0 1;set 1 2");
        due("30 room(0)", x.room(0), 4);
        due("30 room(1)", x.room(1), 1);
        due("30 room(2)", x.room(2), -1);
        due("30 room(-1)", x.room(-1), -1);
        due("30 nothing changes", x.set(0), 3);
        RoadLinks y = pairs();
        due("30 a loop has no room", y.room(0), 4);
    }

    private static void promise31() {
        RoadLinks x = Texts.made("posts 3;set 0 1;set 1 2");
        due("31 none is idle", x.idle(), 0);
        x.add(0);
        due("31 a set without posts", x.idle(), 4);
        due("31 change", x.change(2, 7), 0);
        due("31 now all posts are free", x.idle(), 0);
        x.add(7);
        due("31 each could go alone", x.idle(), 15);
        due("31 nothing changes", x.count(3), 4);
        due("31 of no sets", new RoadLinks().idle(), 0);
    }

    private static void promise32() {
        RoadLinks x = Texts.made("posts 3;set 0 1 2;set 0 1 2;set 0 1 2;set 1 2");
        due("32 small()", x.small(), 8);
        due("32 the first sets went", x.count(3), 3);
        due("32 set(0)", x.set(0), 4);
        due("32 set(1)", x.set(1), 1);
        due("32 set(2)", x.set(2), 2);
        due("32 the bases stay", x.base(1, 0), 7);
        due("32 small() again", x.small(), 0);
        x.add(0);
        due("32 a set without posts goes, uncounted", x.small(), 0);
        due("32 it went", x.count(3), 3);
        due("32 of no sets", new RoadLinks().small(), 0);
    }

    private static void promise33() {
        RoadLinks x = new RoadLinks();
        due("33 row(0, 40)", x.row(0, 40), 1);
        x.put(0, 39, 5);
        due("33 row(0, 41)", x.row(0, 41), -2);
        due("33 row(0, -1)", x.row(0, -1), -14);
        due("33 row(0, min)", x.row(0, Integer.MIN_VALUE), -14);
        due("33 refused: nothing changes", x.get(0, 39), 5);
        due("33 row(3, 41)", x.row(3, 41), -1);
        due("33 row(-1, 0)", x.row(-1, 0), -1);
        due("33 row(0, 40) again", x.row(0, 40), 1);
        due("33 all 0", x.get(0, 39), 0);
        due("33 row(2, 0)", x.row(2, 0), 1);
        due("33 count(5)", x.count(5), 2);
        due("33 it holds none", x.lose(2), 0);
    }

    private static void promise34() {
        RoadLinks x = new RoadLinks();
        x.row(1, 7);
        due("34 lose(1)", x.lose(1), 7);
        due("34 lose(1) again", x.lose(1), -11);
        due("34 lose(3)", x.lose(3), -1);
        due("34 lose(-1)", x.lose(-1), -1);
        due("34 count(5)", x.count(5), 0);
    }

    private static void promise35() {
        RoadLinks x = new RoadLinks();
        x.row(1, 2);
        due("35 put(1, 0, min)", x.put(1, 0, Integer.MIN_VALUE), 1);
        due("35 put(1, 1, max)", x.put(1, 1, Integer.MAX_VALUE), 1);
        due("35 get(1, 0)", x.get(1, 0), Integer.MIN_VALUE);
        due("35 get(1, 1)", x.get(1, 1), Integer.MAX_VALUE);
        due("35 put(1, 2, 0)", x.put(1, 2, 0), -13);
        due("35 put(1, -1, 0)", x.put(1, -1, 0), -13);
        due("35 put(0, 9, 0)", x.put(0, 9, 0), -11);
        due("35 put(3, 9, 0)", x.put(3, 9, 0), -1);
        due("35 put(-1, 0, 0)", x.put(-1, 0, 0), -1);
    }

    private static void promise36() {
        RoadLinks x = new RoadLinks();
        x.row(2, 3);
        x.put(2, 1, -8);
        due("36 get(2, 1)", x.get(2, 1), -8);
        due("36 get(2, 3)", x.get(2, 3), Long.MIN_VALUE);
        due("36 get(2, -1)", x.get(2, -1), Long.MIN_VALUE);
        due("36 get(1, 0)", x.get(1, 0), Long.MIN_VALUE);
        due("36 get(1, -1)", x.get(1, -1), Long.MIN_VALUE);
        due("36 get(3, 0)", x.get(3, 0), Long.MIN_VALUE);
        due("36 get(-1, 0)", x.get(-1, 0), Long.MIN_VALUE);
        x.lose(2);
        due("36 get of a lost row", x.get(2, 1), Long.MIN_VALUE);
    }

    private static void promise37() {
        RoadLinks x = new RoadLinks();
        x.row(0, 5);
        x.row(1, 3);
        for (int i = 0; i < 5; i++) x.put(0, i, 10 + i);
        due("37 copy(0, 2, 1, 0, 3)", x.copy(0, 2, 1, 0, 3), 3);
        due("37 get(1, 0)", x.get(1, 0), 12);
        due("37 get(1, 2)", x.get(1, 2), 14);
        due("37 onto itself, later", x.copy(0, 0, 0, 1, 4), 4);
        due("37 as they were", x.get(0, 4), 13);
        due("37 the first stays", x.get(0, 1), 10);
        due("37 onto itself, earlier", x.copy(0, 2, 0, 0, 3), 3);
        due("37 earlier as they were", x.get(0, 2), 13);
        due("37 none at the ends", x.copy(0, 5, 1, 3, 0), 0);
        due("37 behind the end", x.copy(0, 6, 1, 0, 0), -13);
        due("37 behind the other's end", x.copy(0, 0, 1, 4, 0), -13);
        due("37 beyond the end", x.copy(0, 3, 1, 0, 3), -13);
        due("37 beyond the other's end", x.copy(0, 0, 1, 1, 3), -13);
        due("37 n below 0", x.copy(0, 0, 1, 0, -1), -13);
        due("37 i below 0", x.copy(0, -1, 1, 0, 1), -13);
        due("37 j below 0", x.copy(0, 0, 1, -1, 1), -13);
        due("37 far beyond", x.copy(0, Integer.MAX_VALUE, 1, 0, Integer.MAX_VALUE), -13);
        due("37 far below", x.copy(0, Integer.MIN_VALUE, 1, 0, Integer.MIN_VALUE), -13);
        due("37 from a missing row", x.copy(2, -1, 1, 0, 0), -11);
        due("37 to a missing row", x.copy(0, -1, 2, 0, 0), -11);
        due("37 no such row", x.copy(3, 0, 2, 0, 0), -1);
        due("37 no such other row", x.copy(2, 0, -1, 0, 0), -1);
    }

    private static void promise38() {
        RoadLinks x = pairs();
        due("38 film(0, 1, 0, 40)", x.film(0, 1, 0, 40), 16);
        int[] wanted = {0, 1, 1, 2, 1, 2, 2, 2, 0, 1, 1, 2, 1, 2, 2, 2};
        for (int i = 0; i < wanted.length; i++) due("38 rank of " + i, x.get(0, i), wanted[i]);
        due("38 no place more", x.get(0, 16), Long.MIN_VALUE);
        due("38 film(0, 3, 14, 1)", x.film(0, 3, 14, 1), 1);
        due("38 the dual", x.get(0, 0), 2);
        due("38 one place", x.lose(0), 1);
        due("38 film(2, 0, 15, 0)", x.film(2, 0, 15, 0), 0);
        due("38 a row without places", x.lose(2), 0);
        due("38 film(3, 1, 16, 41)", x.film(3, 1, 16, 41), -1);
        due("38 film(0, 4, 0, 1)", x.film(0, 4, 0, 1), -1);
        due("38 film(0, 1, 16, 1)", x.film(0, 1, 16, 1), -2);
        due("38 film(0, 1, -1, 1)", x.film(0, 1, -1, 1), -2);
        due("38 film(0, 1, 0, 41)", x.film(0, 1, 0, 41), -2);
        due("38 film(0, 1, 0, -1)", x.film(0, 1, 0, -1), -2);
        due("38 refused: missing as it was", x.count(5), 0);
        x.posts(8);
        due("38 40 places of 256", x.film(1, 0, 216, 40), 40);
        due("38 39 places", x.film(1, 0, 217, 40), 39);
    }

    private static void promise39() {
        RoadLinks x = pairs();
        x.film(0, 1, 3, 6);
        due("39 judge(0, 1, 3)", x.judge(0, 1, 3), 106);
        x.put(0, 4, 9);
        due("39 one not so", x.judge(0, 1, 3), 4);
        due("39 from elsewhere", x.judge(0, 1, 0), 0);
        x.row(1, 3);
        due("39 no such set", x.judge(1, 0, 14), 2);
        due("39 no such set at all", x.judge(1, 0, 16), -2);
        due("39 x below 0", x.judge(1, 0, -1), -2);
        due("39 a missing row", x.judge(2, 0, 0), -11);
        due("39 no set ahead of missing", x.judge(2, 0, 16), -2);
        due("39 judge(3, 0, 16)", x.judge(3, 0, 16), -1);
        due("39 judge(0, 4, 16)", x.judge(0, 4, 16), -1);
        x.row(2, 0);
        due("39 a row without places", x.judge(2, 1, 15), 100);
    }

    private static void promise40() {
        RoadLinks x = new RoadLinks();
        due("40 feed(32)", x.feed(32), 1);
        due("40 feed(126)", x.feed(126), 2);
        due("40 feed(31)", x.feed(31), -2);
        due("40 feed(127)", x.feed(127), -2);
        due("40 feed(65536 + 97)", x.feed(65536 + 97), -2);
        due("40 feed(-1)", x.feed(-1), -2);
        for (int i = 3; i <= 120; i++) due("40 feed", x.feed(97), i);
        due("40 feed when full", x.feed(97), -4);
        due("40 feed(31) when full", x.feed(31), -2);
        due("40 count(4)", x.count(4), 120);
    }

    private static void promise41() {
        RoadLinks x = new RoadLinks();
        due("41 wipe() of none", x.wipe(), 0);
        Texts.feed(x, "posts");
        due("41 wipe()", x.wipe(), 5);
        due("41 count(4)", x.count(4), 0);
        due("41 a text behind it", Texts.read(x, "posts 2"), 1);
    }

    private static void promise42() {
        RoadLinks x = new RoadLinks();
        due("42 all words", Texts.read(x, "posts 4;road 0 1;road 1 2;block 0 1;to 2;to 2;set;set 3 0 3;weigh 3 07;weigh 2 99"), 10);
        due("42 the tape is empty", x.count(4), 0);
        TALLY.dueText("42 made", Texts.spelled(x), "posts 4;road 1 2;to 2;set;set 0 3;weigh 2 99;weigh 3 7");
        due("42 one statement", Texts.read(x, "set"), 1);
        due("42 block of no road", Texts.read(x, "block 0 1"), 1);
        due("42 weigh 0", Texts.read(x, "weigh 3 0"), 1);
        due("42 weights", x.count(6), 99);
        due("42 posts clears", Texts.read(x, "posts 4;set 1"), 2);
        TALLY.dueText("42 cleared", Texts.spelled(x), "posts 4;set 1");
        StringBuilder full = new StringBuilder("posts 8");
        while (full.length() + 5 <= 120) full.append(";to 7");
        due("42 a long text", Texts.read(x, full.toString()), 23);
    }

    private static void fault(String text, int place) {
        RoadLinks x = new RoadLinks();
        due("42 \"" + text + "\"", Texts.read(x, text), -100 - place);
        due("42 nothing changes by \"" + text + "\"", x.count(0), 1);
        due("42 the tape is empty behind \"" + text + "\"", x.count(4), 0);
    }

    private static void readFaults() {
        fault("", 0);
        fault("post 3", 0);
        fault("postss 3", 0);
        fault("posts", 5);
        fault("posts ", 6);
        fault("posts3", 5);
        fault("posts  3", 6);
        fault("posts x", 6);
        fault("posts 3 ", 7);
        fault("posts 33", 7);
        fault("posts 3;", 8);
        fault("posts 3; to 1", 8);
        fault("posts 3;;", 8);
        fault("posts 3;foo 9 9 9", 8);
        fault("posts 3;POSTS 3", 8);
        fault("posts 3x;foo", 7);
        fault(" posts 3", 0);
        fault("road 0", 6);
        fault("road 0 1 2", 8);
        fault("road 0;to 1", 6);
        fault("block 1 a", 8);
        fault("block", 5);
        fault("to 12", 4);
        fault("to", 2);
        fault("t", 0);
        fault("set 0 ", 6);
        fault("set 12", 5);
        fault("set0", 3);
        fault("set  0", 4);
        fault("sets", 0);
        fault("weigh 0", 7);
        fault("weigh 0 ", 8);
        fault("weigh 0 123", 10);
        fault("weigh 0 9 ", 9);
        fault("weigh 10 9", 7);
        fault("weigh 0 -1", 8);
        fault("posts 9;bad", 8);
        fault("~", 0);
    }

    private static void readRefusals() {
        RoadLinks x = new RoadLinks();
        due("42 posts 0", Texts.read(x, "posts 0"), -300);
        due("42 posts 9", Texts.read(x, "posts 3;posts 9;to 0"), -301);
        due("42 those ahead stay", x.count(0), 3);
        due("42 those behind are not done", x.count(2), 0);
        due("42 road 1 1", Texts.read(x, "road 0 1;road 1 1"), -301);
        due("42 the road stays", x.isRoad(0, 1), 1);
        due("42 road 0 3", Texts.read(x, "road 0 3"), -300);
        due("42 block 1 1", Texts.read(x, "block 1 1"), -300);
        due("42 block 3 0", Texts.read(x, "block 3 0"), -300);
        due("42 to 3", Texts.read(x, "to 2;to 3"), -301);
        due("42 targets", x.count(2), 4);
        due("42 to 9", Texts.read(x, "to 9"), -300);
        due("42 set 3", Texts.read(x, "set 2;set 0 3"), -301);
        due("42 set 9", Texts.read(x, "set 9"), -300);
        due("42 sets", x.count(3), 1);
        due("42 weigh 3 1", Texts.read(x, "weigh 2 5;weigh 3 1"), -301);
        due("42 weights", x.count(6), 5);
        due("42 nine sets", Texts.read(x, "set;set;set;set;set;set;set;set;set"), -307);
        due("42 eight sets", x.count(3), 8);
        due("42 the tape is empty", x.count(4), 0);
    }

    private static void promise43() {
        RoadLinks x = Texts.made("posts 3;road 2 0;road 0 2;road 0 1;to 2;to 0;set 2 1;set;set 0;weigh 2 10;weigh 0 9");
        String wanted = "posts 3;road 0 1;road 0 2;road 2 0;to 0;to 2;set 1 2;set;set 0;weigh 0 9;weigh 2 10";
        TALLY.dueText("43 spelled", Texts.spelled(x), wanted);
        due("43 spelled(-1)", x.spelled(-1), wanted.length());
        due("43 spelled(-2)", x.spelled(-2), -1);
        due("43 spelled(length)", x.spelled(wanted.length()), -1);
        due("43 the last byte", x.spelled(wanted.length() - 1), '0');
        due("43 spelled(min)", x.spelled(Integer.MIN_VALUE), -1);
        x.weigh(2, 0);
        due("43 shorter behind a change", x.spelled(-1), wanted.length() - ";weigh 2 10".length());
        RoadLinks y = Texts.made("posts 8");
        for (int i = 0; i < 8; i++) {
            for (int j = 0; j < 8; j++) y.road(i, j, 1);
            y.weigh(i, 99);
            y.add(255);
        }
        y.targets(255);
        x.change(2, 0);
        int length = x.spelled(-1);
        due("43 sets without posts go", x.small(), 0);
        due("43 shorter by two sets", x.spelled(-1), length - ";set;set".length());
        due("43 the longest text", y.spelled(-1), 7 + 56 * 9 + 8 * 5 + 8 * 20 + 8 * 11);
        due("43 its last byte", y.spelled(798), '9');
        due("43 behind it", y.spelled(799), -1);
    }

    private static void promise44() {
        RoadLinks x = pairs();
        due("44 image()", x.image(), 4);
        x.posts(6);
        due("44 image() again", x.image(), 6);
        x.posts(2);
        due("44 the later one", x.undo(), 6);
        due("44 no sets in it", x.count(3), 0);
    }

    private static void promise45() {
        RoadLinks x = Texts.made("posts 3;road 0 1;to 1;set 0 2;weigh 2 7");
        String made = Texts.spelled(x);
        due("45 no image", x.undo(), -3);
        TALLY.dueText("45 nothing changes", Texts.spelled(x), made);
        x.image();
        x.road(1, 2, 1);
        x.targets(7);
        x.change(0, 1);
        x.add(2);
        x.weigh(2, 8);
        x.row(0, 3);
        x.feed('a');
        due("45 rank of the changed", x.rank(0, 7), 3);
        due("45 undo()", x.undo(), 3);
        TALLY.dueText("45 all is as it was", Texts.spelled(x), made);
        due("45 rank of what was", x.rank(0, 7), 1);
        due("45 rank of the family", x.rank(1, 7), 1);
        due("45 rows stay", x.count(5), 1);
        due("45 the tape stays", x.count(4), 1);
        x.posts(8);
        due("45 undo() again", x.undo(), 3);
        TALLY.dueText("45 the image stays", Texts.spelled(x), made);
    }

    private static void promise46() {
        RoadLinks x = Texts.made("posts 5;road 0 1;road 1 0;road 4 2;to 4;to 0;set 1;set 2;weigh 4 60;weigh 0 50");
        x.row(2, 1);
        Texts.feed(x, "abc");
        int[] wanted = {5, 3, 17, 2, 3, 1, 110};
        for (int what = 0; what < wanted.length; what++) due("46 count " + what, x.count(what), wanted[what]);
        due("46 count(7)", x.count(7), -1);
        due("46 count(-1)", x.count(-1), -1);
        due("46 count(max)", x.count(Integer.MAX_VALUE), -1);
    }
}
