import java.util.ArrayList;
import java.util.List;

/**
 * Each sentence of the document that names a boundary: the least and the greatest, none and all, empty and full,
 * numbers that would wrap around, every refused call. The sentence stands as the test's name. What refused calls
 * leave as it was, and the order in which several refusals are named, stand in RefusalTests.
 */
public final class EdgeTests {
    private static final Tally TALLY = new Tally("edges");

    private EdgeTests() {
    }

    public static void main(String[] args) {
        useful();
        posts();
        setsOfPosts();
        sides();
        roads();
        targetsAndWeights();
        family();
        linked();
        matched();
        dual();
        ranks();
        ranksByWhatIsNow();
        bases();
        circuits();
        flats();
        shut();
        loops();
        round();
        swap();
        steps();
        less();
        heaviest();
        alike();
        cut();
        reach();
        partners();
        turned();
        strict();
        strictNot();
        spareAndRoom();
        idle();
        small();
        rows();
        places();
        copied();
        copiedBeyond();
        filmed();
        judged();
        tape();
        texts();
        textsRefused();
        faults();
        faultsAtEachPlace();
        spelled();
        spelledBehindEachChange();
        image();
        counts();
        TALLY.end();
    }

    private static Calls made(String sentence, String... lines) {
        return new Calls(TALLY, sentence).due(lines);
    }

    /** On eight posts as many sets of all of them. */
    private static Calls alikeSets(String sentence, int sets) {
        Calls calls = made(sentence, "posts 8 = 1");
        for (int k = 0; k < sets; k++) calls.due("add 255 = " + k);
        return calls;
    }

    /** The call with no such number for its letter. */
    private static void none(Calls calls, String call, String letter, String... numbers) {
        for (String number : numbers) calls.due(call.replace(letter, number) + " = -1");
    }

    // ---- 1 posts, roads, sets

    private static void useful() {
        Calls calls = made("an object is used for at most 512 calls: the 512th one", "posts 8 = 1");
        for (int i = 0; i < 510; i++) calls.due("weigh 7 " + (i % 100) + " = " + (i == 0 ? 0 : (i - 1) % 100));
        calls.due("count 6 = 9");
        Calls filled = made("an object is used for at most 512 calls, images too", "posts 8 = 1");
        for (int i = 0; i < 255; i++) filled.due("image = 8", "undo = 8");
        filled.due("count 0 = 8");
    }

    private static void posts() {
        made("POSTS 1 at first", "count 0 = 1", "posts 1 = 1");
        made("n 1 .. 8: the least", "posts 1 = 1", "count 0 = 1", "posts 2 = 1");
        made("n 1 .. 8: the greatest", "posts 8 = 1", "count 0 = 8", "posts 7 = 8");
        made("n 1 .. 8: below", "posts 0 = -2", "posts -1 = -2", "posts min = -2", "count 0 = 1");
        made("n 1 .. 8: above", "posts 9 = -2", "posts 257 = -2", "posts max = -2", "count 0 = 1");
        for (int n = 1; n <= 8; n++) {
            made("POSTS 0 .. n less 1", "posts " + n + " = 1", "weigh 0 5 = 0",
                "weigh " + (n - 1) + " 6 = " + (n == 1 ? 5 : 0), "weigh " + n + " 1 = -1", "weigh -1 1 = -1",
                "weigh min 1 = -1", "weigh max 1 = -1");
        }
        made("by posts() there are no ROADS, TARGETS, SETS, all WEIGHTS are 0: the same n, too",
            "TEXT posts 3;road 0 1;road 2 1;to 0;to 2;set 1;set;weigh 0 99 = 8", "posts 3 = 3", "SPELLED = posts 3",
            "rank 0 7 = 0", "rank 1 7 = 0", "rank 2 7 = 3", "rank 3 7 = 3");
        made("by posts() all is gone, for a POST that is there again later, too",
            "TEXT posts 8;road 7 6;to 7;set 7;weigh 7 9 = 5", "posts 1 = 8", "posts 8 = 1", "SPELLED = posts 8");
    }

    private static void setsOfPosts() {
        String[] takers = {
            "targets X", "add X", "change 0 X", "rank 0 X", "rank 1 X", "free 2 X", "free 3 X", "shut 0 X", "shut 3 X",
            "round 0 X 0", "swap 0 X 0 0", "swap 0 0 X 0", "less 0 X 0 0", "less 0 0 X 0", "less 0 0 0 X", "cut X",
            "reach X", "partners X", "film 0 0 X 1", "judge 0 0 X"
        };
        for (int n = 1; n <= 8; n++) {
            for (String taker : takers) {
                Calls calls = made("sets 0 .. 2 to the n less 1", "posts " + n + " = 1", "add 0 = 0", "row 0 1 = 1");
                for (String bad : new String[] {"-1", "min", "max", "" + (1 << n), "" + (2 << n)}) {
                    calls.due(taker.replace("X", bad) + " = -2");
                }
                isTaken(calls, taker.replace("X", "0"));
                isTaken(calls, taker.replace("X", Integer.toString((1 << n) - 1)));
            }
        }
    }

    private static void isTaken(Calls calls, String call) {
        TALLY.isSo("a set that is told rightly is not BAD: " + call, calls.answer(call) != RoadLinks.BAD);
    }

    private static void sides() {
        String[] askers = {
            "rank W 0", "free W 0", "base W -1", "circuit W -1", "flat W -1", "shut W 0", "loops W 0", "round W 0 0",
            "swap W 0 0 0", "steps W", "less W 0 0 0", "heaviest W 0", "alike W 0", "alike 0 W", "film 0 W 0 1",
            "judge 0 W 0"
        };
        for (String asker : askers) {
            Calls calls = made("SIDES 0 .. 3", "row 0 1 = 1");
            none(calls, asker, "W", "-1", "4", "min", "max");
            for (int w = 0; w < 4; w++) {
                String call = asker.replace("W", Integer.toString(w));
                TALLY.isSo("a side that there is, is not NONE: " + call, calls.answer(call) != RoadLinks.NONE);
            }
        }
    }

    private static void roads() {
        made("a ROAD leads from one POST to another one: never to itself", "posts 8 = 1", "road 0 0 1 = -3",
            "road 7 7 1 = -3", "road 7 7 0 = -3", "isRoad 7 7 = 0", "count 1 = 0");
        made("with one POST there are no ROADS", "road 0 0 1 = -3", "road 0 1 1 = -1", "isRoad 0 0 = 0",
            "isRoad 0 1 = -1");
        made("one way", "posts 8 = 1", "road 0 7 1 = 0", "isRoad 0 7 = 1", "isRoad 7 0 = 0", "road 7 0 1 = 0",
            "count 1 = 2", "road 0 7 0 = 1", "isRoad 0 7 = 0", "isRoad 7 0 = 1", "count 1 = 1");
        made("a ROAD that is there, or is none, again", "posts 2 = 1", "road 1 0 0 = 0", "road 1 0 1 = 0",
            "road 1 0 1 = 1", "count 1 = 1", "road 1 0 0 = 1", "road 1 0 0 = 0", "count 1 = 0");
        made("BAD: is", "posts 2 = 1", "road 0 1 2 = -2", "road 0 1 -1 = -2", "road 0 1 min = -2", "road 0 1 max = -2");
        made("NONE: i, j", "posts 3 = 1", "road 3 0 1 = -1", "road 0 3 1 = -1", "road -1 0 1 = -1", "road 0 -1 1 = -1",
            "road min 0 1 = -1", "road 0 max 1 = -1", "isRoad 3 0 = -1", "isRoad 0 3 = -1", "isRoad -1 0 = -1",
            "isRoad 0 -1 = -1", "isRoad max 0 = -1", "isRoad 0 min = -1", "isRoad 2 2 = 0");
        Calls calls = made("all ROADS that can be", "posts 8 = 1");
        for (int i = 0; i < 8; i++) {
            for (int j = 0; j < 8; j++) calls.due("road " + i + " " + j + " 1 = " + (i == j ? -3 : 0));
        }
        calls.due("count 1 = 56", "reach 1 = 255", "reach 128 = 255");
    }

    private static void targetsAndWeights() {
        made("TARGETS: none at first", "count 2 = 0", "targets 0 = 0");
        made("TARGETS: none, all", "posts 8 = 1", "targets 255 = 0", "targets 0 = 255", "targets 128 = 0",
            "count 2 = 128");
        made("WEIGHTS 0 at first", "posts 8 = 1", "weigh 0 0 = 0", "weigh 7 0 = 0", "count 6 = 0");
        made("WEIGHTS 0 .. 99", "weigh 0 99 = 0", "weigh 0 100 = -2", "weigh 0 -1 = -2", "weigh 0 max = -2",
            "weigh 0 min = -2", "weigh 0 0 = 99", "weigh 0 1 = 0", "count 6 = 1");
    }

    private static void family() {
        made("SETS: none at first", "count 3 = 0", "set 0 = -1", "change 0 0 = -1", "drop 0 = -1", "spare 0 = -1",
            "room 0 = -1");
        made("SETS: 8 at most", "add 1 = 0", "add 1 = 1", "add 1 = 2", "add 1 = 3", "add 1 = 4", "add 1 = 5",
            "add 1 = 6", "add 0 = 7", "add 1 = -4", "add 0 = -4", "add 2 = -2", "count 3 = 8", "set 7 = 0",
            "set 8 = -1", "drop 7 = 7", "add 1 = 7", "set 7 = 1", "add 1 = -4");
        made("SETS: none of POSTS, too", "add 0 = 0", "set 0 = 0", "change 0 1 = 0", "change 0 0 = 1", "drop 0 = 0");
        String[] askers = {"change K 0", "drop K", "set K", "spare K", "room K"};
        for (String asker : askers) {
            Calls calls = made("SETS 0 ..", "add 1 = 0", "add 0 = 1");
            none(calls, asker, "K", "-1", "2", "8", "min", "max");
            TALLY.isSo("the last SET is there: " + asker, calls.answer(asker.replace("K", "1")) >= 0);
        }
        made("a SET goes: the first, the last of 8", "TEXT posts 8;set 0;set 1;set 2;set 3;set 4;set 5;set 6;set 7 = 9",
            "drop 0 = 7", "set 0 = 2", "set 6 = 128", "set 7 = -1", "drop 6 = 6", "set 5 = 64", "set 6 = -1",
            "rank 1 255 = 6", "rank 1 129 = 0");
        made("a SET goes: the only one", "add 1 = 0", "rank 1 1 = 1", "drop 0 = 0", "rank 1 1 = 0", "drop 0 = -1");
    }

    // ---- 1 ways, matches, duals, ranks

    private static void linked() {
        made("LINKED: no POSTS", "free 0 0 = 1", "posts 8 = 1", "free 0 0 = 1");
        made("a WAY by none: that POST alone", "TEXT posts 2;to 1 = 2", "free 0 2 = 1", "free 0 1 = 0", "free 0 3 = 0");
        made("a WAY by one ROAD, one way", "TEXT posts 2;road 0 1;to 1 = 3", "free 0 1 = 1", "free 0 2 = 1",
            "targets 1 = 2", "free 0 2 = 0", "free 0 1 = 1");
        made("each ending at a TARGET: there is none", "TEXT posts 3;road 0 1;road 1 2 = 3", "rank 0 7 = 0",
            "free 0 1 = 0");
        made("the longest WAY", "TEXT posts 8;road 0 1;road 1 2;road 2 3;road 3 4;road 4 5;road 5 6;road 6 7;to 7 = 9",
            "free 0 1 = 1", "rank 0 255 = 1", "road 3 4 0 = 1", "free 0 1 = 0", "free 0 16 = 1");
        made("a POST in common: the other one's first", "TEXT posts 4;road 0 1;road 1 2;road 1 3;to 2;to 3 = 6",
            "free 0 3 = 0", "free 0 1 = 1", "free 0 2 = 1", "rank 0 3 = 1", "rank 0 15 = 2");
        made("a POST in common: a TARGET of X", "TEXT posts 2;road 0 1;to 1 = 3", "free 0 3 = 0", "rank 0 3 = 1");
        made("a POST in common: one in the middle", "TEXT posts 5;road 0 2;road 1 2;road 2 3;road 2 4;to 3;to 4 = 7",
            "free 0 3 = 0", "road 1 4 1 = 0", "free 0 3 = 1", "free 0 7 = 0");
        made("the way of one must give way", "TEXT posts 4;road 0 2;road 0 3;road 1 2;to 2;to 3 = 6", "free 0 3 = 1",
            "free 0 7 = 0", "free 0 9 = 1", "free 0 10 = 1", "free 0 11 = 0");
        made("WAYS around", "TEXT posts 3;road 0 1;road 1 2;road 2 0;to 0;to 1;to 2 = 7", "free 0 7 = 1",
            "targets 1 = 7", "free 0 1 = 1", "free 0 2 = 1", "free 0 4 = 1", "rank 0 7 = 1", "targets 0 = 1",
            "rank 0 7 = 0");
        made("LINKED: all POSTS are TARGETS", "posts 8 = 1", "targets 255 = 0", "free 0 255 = 1", "rank 0 255 = 8");
    }

    private static void matched() {
        made("MATCHED: no POSTS, no SETS", "free 1 0 = 1", "free 1 1 = 0", "add 0 = 0", "free 1 0 = 1", "free 1 1 = 0");
        made("no two the same SET", "TEXT posts 2;set 0 1 = 2", "free 1 1 = 1", "free 1 2 = 1", "free 1 3 = 0",
            "add 1 = 1", "free 1 3 = 1");
        made("like SETS count each", "TEXT posts 3;set 0 2;set 0 2 = 3", "free 1 5 = 1", "free 1 7 = 0", "add 5 = 2",
            "free 1 7 = 0");
        made("a POST in all SETS, the other ones in none", "TEXT posts 3;set 0;set 0;set 0 = 4", "rank 1 7 = 1",
            "free 1 1 = 1", "free 1 2 = 0");
        alikeSets("seven SETS for eight POSTS", 7).due("rank 1 255 = 7", "free 1 255 = 0", "free 1 127 = 1",
            "free 1 254 = 1");
        alikeSets("eight SETS for eight POSTS", 8).due("rank 1 255 = 8", "free 1 255 = 1");
        made("the highest POSTS", "TEXT posts 8;set 6;set 7;set 5 6;set 4 7 = 5", "free 1 240 = 1", "rank 1 255 = 4",
            "rank 1 192 = 2", "rank 1 15 = 0");
    }

    private static void dual() {
        made("a BASE that has no POST of X: the BASE has none", "posts 8 = 1", "free 2 255 = 1", "free 3 255 = 1",
            "rank 2 255 = 8", "rank 3 255 = 8");
        made("a BASE that has no POST of X: the BASE has all", "posts 8 = 1", "targets 255 = 0", "turned = 0",
            "free 2 0 = 1", "free 2 1 = 0", "free 2 128 = 0", "rank 2 255 = 0");
        alikeSets("a BASE that has no POST of X: all are in it", 8).due("free 3 0 = 1", "free 3 1 = 0",
            "rank 3 255 = 0");
        made("not each BASE: one", "TEXT posts 2;set 0 1 = 2", "free 3 1 = 1", "free 3 2 = 1", "free 3 3 = 0");
    }

    private static void ranks() {
        Calls first = made("RANK: of a new object");
        for (int w = 0; w < 4; w++) first.due("rank " + w + " 0 = 0", "rank " + w + " 1 = " + w / 2);
        Calls none = made("RANK of no POSTS", "TEXT posts 3;road 0 1;to 1;set 0 2 = 4");
        for (int w = 0; w < 4; w++) none.due("rank " + w + " 0 = 0");
        none.due("rank 0 7 = 1", "rank 1 7 = 1", "rank 2 7 = 2", "rank 3 7 = 2");
        made("the greatest FREE set within X: X itself, a part of it, none", "TEXT posts 3;set 0 1;set 1 = 3",
            "rank 1 3 = 2", "rank 1 7 = 2", "rank 1 5 = 1", "rank 1 4 = 0");
        made("RANKS are by what is now", "TEXT posts 2;to 0;set 0 = 3", "rank 0 3 = 1", "targets 3 = 1", "rank 0 3 = 2",
            "rank 2 3 = 0", "rank 1 3 = 1", "add 2 = 1", "rank 1 3 = 2", "change 1 1 = 2", "rank 1 3 = 1", "drop 0 = 1",
            "rank 1 3 = 1", "targets 2 = 3", "rank 0 1 = 0", "road 0 1 1 = 0", "rank 0 1 = 1", "road 0 1 0 = 1",
            "rank 0 1 = 0", "turned = 1", "rank 1 1 = 1", "rank 1 2 = 0", "add 2 = 1", "strict = 0", "rank 0 3 = 0",
            "image = 2", "posts 1 = 2", "rank 2 1 = 1", "rank 1 1 = 0", "undo = 2", "rank 1 3 = 2",
            "TEXT set 0;to 0 = 2", "rank 0 3 = 1", "rank 1 3 = 2", "small = 1", "rank 1 3 = 2");
    }

    private static void ranksByWhatIsNow() {
        String now = "RANKS are by what is now";
        made(now + ": a SET for another one", "TEXT posts 2;set 0 = 2", "rank 1 1 = 1", "drop 0 = 0", "add 2 = 0",
            "rank 1 1 = 0", "rank 1 2 = 1");
        made(now + ": a ROAD for another one", "TEXT posts 3;to 2;road 0 2 = 3", "rank 0 1 = 1", "road 0 2 0 = 1",
            "road 1 2 1 = 0", "rank 0 1 = 0", "rank 0 2 = 1");
        made(now + ": behind undo()", "posts 2 = 1", "image = 2", "add 1 = 0", "rank 1 1 = 1", "undo = 2", "add 2 = 0",
            "rank 1 1 = 0", "rank 1 2 = 1");
        made(now + ": behind posts()", "posts 2 = 1", "add 1 = 0", "rank 1 1 = 1", "posts 2 = 2", "add 2 = 0",
            "rank 1 1 = 0");
        made(now + ": behind a WEIGHT", "posts 2 = 1", "add 1 = 0", "rank 1 1 = 1", "weigh 0 5 = 0", "heaviest 1 1 = 5",
            "change 0 2 = 1", "rank 1 1 = 0", "heaviest 1 1 = 0");
        made(now + ": behind small()", "TEXT posts 2;set 0;set 0 = 3", "rank 1 3 = 1", "small = 1", "add 2 = 1",
            "rank 1 3 = 2");
        made(now + ": behind strict()", "TEXT posts 2;to 0;set 0 = 3", "rank 0 1 = 1", "strict = 0", "rank 0 1 = 0",
            "rank 0 2 = 1");
    }

    // ---- 2 what is told by a side

    private static void bases() {
        made("BASES: FREE sets with most POSTS: no POSTS", "base 0 -1 = 1", "base 0 0 = 0", "base 0 1 = -1",
            "base 0 -2 = -1");
        made("BASES: all POSTS", "posts 8 = 1", "base 2 -1 = 1", "base 2 0 = 255", "base 2 1 = -1", "base 3 0 = 255");
        alikeSets("the most BASES, rising as bits, from 0; k -1: how many", 4).due("base 1 -1 = 70", "base 1 0 = 15",
            "base 1 1 = 23", "base 1 69 = 240", "base 1 70 = -1", "base 1 max = -1", "base 1 -2 = -1",
            "base 1 min = -1", "base 3 -1 = 70", "base 3 0 = 15", "base 3 69 = 240");
        made("BASES have most POSTS, not as many as can be told", "TEXT posts 3;set 0;set 1 2 = 3", "base 1 -1 = 2",
            "base 1 0 = 3", "base 1 1 = 5", "base 1 2 = -1");
    }

    private static void circuits() {
        made("CIRCUITS: none, where all is FREE", "posts 8 = 1", "circuit 2 -1 = 0", "circuit 2 0 = -1",
            "circuit 2 -2 = -1");
        made("CIRCUITS: each POST, where none is FREE", "posts 8 = 1", "circuit 0 -1 = 8", "circuit 0 0 = 1",
            "circuit 0 7 = 128", "circuit 0 8 = -1");
        alikeSets("the most CIRCUITS likewise", 4).due("circuit 1 -1 = 56", "circuit 1 0 = 31", "circuit 1 55 = 248",
            "circuit 1 56 = -1", "circuit 1 max = -1", "circuit 1 min = -1", "circuit 1 -2 = -1");
        alikeSets("CIRCUITS: all POSTS together", 7).due("circuit 1 -1 = 1", "circuit 1 0 = 255", "circuit 1 1 = -1");
        made("without any one of their POSTS, not without one of them", "TEXT posts 3;set 0 1;set 2 = 3",
            "circuit 1 -1 = 1", "circuit 1 0 = 3");
    }

    private static void flats() {
        made("FLATS: one, where no POST is FREE", "posts 8 = 1", "flat 0 -1 = 1", "flat 0 0 = 255", "flat 0 1 = -1",
            "flat 0 -2 = -1");
        made("FLATS: each set, where all is FREE", "posts 8 = 1", "flat 2 -1 = 256", "flat 2 0 = 0", "flat 2 255 = 255",
            "flat 2 256 = -1", "flat 2 max = -1", "flat 2 min = -1");
        alikeSets("FLATS: all POSTS are one", 4).due("flat 1 -1 = 94", "flat 1 0 = 0", "flat 1 92 = 224",
            "flat 1 93 = 255", "flat 1 94 = -1");
    }

    private static void shut() {
        made("SHUT of no POSTS: the LOOPS", "TEXT posts 3;to 1 = 2", "shut 0 0 = 5", "shut 0 2 = 7", "shut 0 7 = 7",
            "shut 2 0 = 2", "shut 2 5 = 7");
        made("SHUT of a FLAT: itself", "posts 8 = 1", "shut 2 0 = 0", "shut 2 128 = 128", "shut 2 255 = 255",
            "shut 0 0 = 255");
        alikeSets("SHUT of too few, of enough", 4).due("shut 1 7 = 7", "shut 1 15 = 255", "shut 1 31 = 255");
    }

    private static void loops() {
        made("LOOPS, BOUND: the BASE has none", "posts 8 = 1", "loops 0 0 = 255", "loops 0 1 = 0", "loops 1 0 = 255",
            "loops 1 1 = 0");
        made("LOOPS, BOUND: the BASE has all", "posts 8 = 1", "loops 2 0 = 0", "loops 2 1 = 255", "loops 3 0 = 0",
            "loops 3 1 = 255");
        made("LOOPS, BOUND: one BASE alone", "TEXT posts 3;to 1 = 2", "loops 0 0 = 5", "loops 0 1 = 2", "loops 2 0 = 2",
            "loops 2 1 = 5");
        alikeSets("LOOPS, BOUND: neither", 4).due("loops 1 0 = 0", "loops 1 1 = 0");
        made("what 0, 1", "loops 0 -1 = -1", "loops 0 2 = -1", "loops 0 min = -1", "loops 0 max = -1");
    }

    private static void round() {
        made("ROUND of a LOOP: it alone", "TEXT posts 3;to 1 = 2", "round 0 2 0 = 1", "round 0 2 2 = 4");
        made("ROUND by a BASE without POSTS", "posts 8 = 1", "round 0 0 0 = 1", "round 0 0 7 = 128",
            "round 1 0 7 = 128");
        alikeSets("ROUND: all of the BASE and e", 4).due("round 1 15 7 = 143", "round 1 240 0 = 241",
            "round 3 15 4 = 31");
        alikeSets("ROUND: all POSTS", 7).due("round 1 127 7 = 255");
        made("within B and e: not all of B", "TEXT posts 4;set 0 1;set 2 3 = 3", "round 1 6 0 = 3", "round 1 6 3 = 12");
        made("NOT: b is no BASE", "TEXT posts 3;set 0 1;set 1 2 = 3", "round 1 1 1 = -5", "round 1 0 1 = -5",
            "round 1 7 0 = -5", "round 3 3 2 = -5");
        made("NOT: e is in it", "TEXT posts 3;set 0 1;set 1 2 = 3", "round 1 3 0 = -5", "round 1 3 1 = -5",
            "round 1 3 2 = 7");
        made("NOT: there is no e out of it", "round 2 1 0 = -5", "round 2 0 0 = -5", "round 0 0 0 = 1");
        made("NONE: e", "TEXT posts 3;set 0 = 2", "round 1 1 3 = -1", "round 1 1 -1 = -1", "round 1 1 min = -1",
            "round 1 1 max = -1");
    }

    private static void swap() {
        alikeSets("SWAP: the least f", 4).due("swap 1 15 240 0 = 4", "swap 1 240 15 7 = 0", "swap 1 15 141 1 = 7",
            "swap 1 15 30 0 = 4", "swap 3 15 240 3 = 4");
        made("SWAP: not the least, but the one that makes a BASE", "TEXT posts 4;set 0 2;set 1 3 = 3",
            "swap 1 3 12 0 = 2", "swap 1 3 12 1 = 3");
        made("NOT: b or c is no BASE", "TEXT posts 4;set 0 2;set 1 3 = 3", "swap 1 1 12 0 = -5", "swap 1 3 8 0 = -5",
            "swap 1 5 12 0 = -5", "swap 1 3 10 0 = -5", "swap 1 7 12 0 = -5", "swap 1 3 0 0 = -5",
            "swap 1 0 12 0 = -5");
        made("NOT: e is not in b, or is in c", "TEXT posts 4;set 0 2;set 1 3 = 3", "swap 1 3 12 2 = -5",
            "swap 1 3 6 1 = -5", "swap 1 3 6 3 = -5", "swap 1 3 3 0 = -5", "swap 1 3 6 0 = 2");
        alikeSets("NOT: e is in c, though another POST could come for it", 2).due("swap 1 3 6 1 = -5",
            "swap 1 3 6 0 = 2", "swap 1 3 6 2 = -5", "swap 1 3 12 1 = 2", "swap 3 252 126 6 = -5",
            "swap 3 252 126 7 = 1");
        made("NOT: the only BASE", "posts 8 = 1", "swap 2 255 255 7 = -5", "swap 0 0 0 0 = -5");
        made("NONE: e", "TEXT posts 3;set 0 1 = 2", "swap 1 1 2 3 = -1", "swap 1 1 2 -1 = -1", "swap 1 1 2 min = -1",
            "swap 1 1 2 max = -1", "swap 1 1 2 0 = 1");
    }

    private static void steps() {
        made("STEPS: of one BASE", "steps 0 = 0", "steps 1 = 0", "steps 2 = 0", "steps 3 = 0", "posts 8 = 1",
            "steps 2 = 0");
        alikeSets("STEPS: the most, not in order", 4).due("steps 1 = 560", "steps 3 = 560");
        made("STEPS: differ by just one POST each", "TEXT posts 4;set 0 1;set 2 3 = 3", "steps 1 = 4", "steps 3 = 4");
        made("STEPS: by POSTS far apart", "TEXT posts 8;set 0 7 = 2", "steps 1 = 1", "steps 3 = 1");
    }

    private static void less() {
        made("LESS: no POSTS at all", "TEXT posts 3;to 0 = 2", "less 0 0 0 0 = 0", "less 2 0 0 0 = 0");
        made("LESS: all without, all held, all X", "TEXT posts 3;to 0 = 2", "less 0 7 0 0 = 0", "less 0 0 7 0 = 0",
            "less 0 0 0 7 = 1", "less 2 0 0 7 = 2", "less 0 1 2 4 = 0", "less 0 6 0 1 = 1");
        made("LESS: RANK of K is taken away", "TEXT posts 3;set 0 1;set 0 1 2 = 3", "less 1 0 1 2 = 1",
            "less 1 0 3 4 = 0", "less 1 4 1 2 = 1", "less 1 2 1 4 = 1", "less 3 0 1 6 = 0");
        made("D and K have no POST in common", "TEXT posts 3;to 0 = 2", "less 0 1 1 0 = -2", "less 0 4 7 0 = -2",
            "less 0 7 4 0 = -2");
        made("X with no POST of D or K", "TEXT posts 3;to 0 = 2", "less 0 1 0 1 = -2", "less 0 0 1 1 = -2",
            "less 0 4 0 7 = -2", "less 0 0 4 7 = -2", "less 0 1 2 3 = -2", "less 0 1 1 1 = -2");
    }

    private static void heaviest() {
        made("HEAVIEST: a BASE without POSTS", "weigh 0 99 = 0", "heaviest 0 0 = 0", "heaviest 0 1 = 0",
            "heaviest 2 0 = 1", "heaviest 2 1 = 99");
        alikeSets("of like ones the least as bits", 4).due("heaviest 1 0 = 15", "heaviest 1 1 = 0", "weigh 7 1 = 0",
            "heaviest 1 0 = 135", "heaviest 1 1 = 1", "weigh 0 1 = 0", "weigh 1 1 = 0", "weigh 2 1 = 0",
            "weigh 3 1 = 0", "heaviest 1 0 = 15", "heaviest 1 1 = 4", "weigh 7 2 = 1", "heaviest 1 0 = 135",
            "heaviest 1 1 = 5");
        Calls calls = made("WEIGHTS together: the greatest", "posts 8 = 1");
        for (int i = 0; i < 8; i++) calls.due("weigh " + i + " 99 = 0");
        calls.due("heaviest 2 0 = 255", "heaviest 2 1 = 792", "heaviest 0 1 = 0", "count 6 = 792");
        made("WEIGHTS together are greatest", "TEXT posts 4;set 0 1;set 2 3;weigh 0 9;weigh 1 8;weigh 2 1 = 6",
            "heaviest 1 0 = 5", "heaviest 1 1 = 10", "heaviest 3 0 = 5", "heaviest 3 1 = 10", "weigh 2 0 = 1",
            "weigh 3 1 = 0", "heaviest 1 0 = 9", "heaviest 3 0 = 9");
        made("what 0, 1", "heaviest 0 -1 = -1", "heaviest 0 2 = -1", "heaviest 0 min = -1", "heaviest 0 max = -1");
    }

    private static void alike() {
        made("ALIKE: a side and itself", "TEXT posts 2;to 0;set 1 = 3", "alike 0 0 = -5", "alike 1 1 = -5",
            "alike 2 2 = -5", "alike 3 3 = -5");
        made("ALIKE: two sides of a new object", "alike 0 1 = -5", "alike 2 3 = -5", "alike 0 2 = 1", "alike 3 1 = 1");
        alikeSets("the least set X: the last one", 7).due("alike 1 2 = 255", "alike 2 1 = 255");
        made("the least set X: the first that can be", "posts 8 = 1", "alike 0 3 = 1", "targets 255 = 0",
            "alike 0 3 = -5", "alike 0 1 = 1");
        made("the least set X: one of two POSTS", "TEXT posts 4;set 0 1 2 3;to 0;to 1;road 2 0;road 3 1 = 6",
            "alike 0 1 = 3", "alike 1 0 = 3");
        made("as many BASES, other ones", "TEXT posts 2;set 0;to 1 = 3", "alike 0 1 = 1", "alike 1 2 = -5",
            "alike 0 3 = -5");
    }

    // ---- 2 links, partners

    private static void cut() {
        made("CUT of no POSTS", "TEXT posts 2;to 0;to 1 = 3", "cut 0 = 0");
        made("CUT: there are no TARGETS, no WAYS to them", "TEXT posts 3;road 0 1 = 2", "cut 7 = 0", "targets 4 = 0",
            "cut 3 = 0", "cut 7 = 4", "targets 1 = 4", "cut 2 = 0", "cut 3 = 1");
        made("CUT: POSTS of X, TARGETS may be of it", "TEXT posts 2;road 0 1;to 1 = 3", "cut 1 = 1", "cut 2 = 2",
            "cut 3 = 2");
        made("CUT: of like ones the least as bits", "TEXT posts 3;road 2 1;road 1 0;to 0 = 4", "cut 4 = 1", "cut 6 = 1",
            "cut 7 = 1");
        made("CUT: of like ones the least as bits: of X", "TEXT posts 3;road 0 1;road 1 2;to 2 = 4", "cut 1 = 1",
            "cut 3 = 2", "cut 7 = 4");
        made("CUT: with the fewest, though greater as bits", "TEXT posts 4;road 0 3;road 1 3;road 2 3;to 3 = 5",
            "cut 7 = 8", "cut 1 = 1", "cut 3 = 8");
        made("CUT: all POSTS", "posts 8 = 1", "targets 255 = 0", "cut 255 = 255", "cut 128 = 128", "cut 170 = 170");
        made("CUT: POSTS out of X that are no TARGETS",
            "TEXT posts 5;road 0 2;road 1 2;road 2 3;road 2 4;to 3;to 4 = 7", "cut 3 = 4", "cut 7 = 4", "cut 31 = 24");
    }

    private static void reach() {
        made("REACH: no POSTS, one POST, all", "reach 0 = 0", "reach 1 = 1", "posts 8 = 1", "reach 0 = 0",
            "reach 128 = 128", "reach 255 = 255");
        made("WAYS to, not from", "TEXT posts 8;road 0 7;road 7 3 = 3", "reach 1 = 137", "reach 128 = 136",
            "reach 8 = 8", "reach 2 = 2", "reach 3 = 139");
        made("TARGETS do not end them", "TEXT posts 3;road 0 1;road 1 2;to 1 = 4", "reach 1 = 7");
        made("the longest, falling", "TEXT posts 8;road 7 6;road 6 5;road 5 4;road 4 3;road 3 2;road 2 1;road 1 0 = 8",
            "reach 128 = 255", "reach 1 = 1", "reach 16 = 31");
    }

    private static void partners() {
        made("PARTNERS: 0 for no POSTS", "partners 0 = 0", "add 1 = 0", "partners 0 = 0");
        made("each 1 more than the SET: the first, the eighth", "add 0 = 0", "add 0 = 1", "add 0 = 2", "add 0 = 3",
            "add 0 = 4", "add 0 = 5", "add 0 = 6", "add 1 = 7", "partners 1 = 8", "change 0 1 = 0", "partners 1 = 1");
        alikeSets("eight digits, the least POST the highest: the first way", 8).due("partners 255 = 12345678",
            "partners 128 = 1", "partners 192 = 12");
        made("eight digits: the one way", "posts 8 = 1", "add 128 = 0", "add 64 = 1", "add 32 = 2", "add 16 = 3",
            "add 8 = 4", "add 4 = 5", "add 2 = 6", "add 1 = 7", "partners 255 = 87654321", "partners 1 = 8",
            "partners 128 = 1", "partners 129 = 81");
        made("the least POST the least SET, then the next one", "TEXT posts 3;set 0 1 2;set 0 1;set 0 = 4",
            "partners 1 = 1", "partners 3 = 12", "partners 5 = 21", "partners 6 = 21", "partners 7 = 321");
        made("NOT: X is not MATCHED", "TEXT posts 3;set 0 1;set 0 1 = 3", "partners 7 = -5", "partners 4 = -5",
            "partners 5 = -5", "partners 3 = 12", "posts 1 = 3", "partners 1 = -5");
        alikeSets("NOT: a POST too many", 7).due("partners 255 = -5", "partners 127 = 1234567",
            "partners 254 = 1234567");
    }

    private static void turned() {
        made("TURNED: each POST is a TARGET", "TEXT posts 8;set 0;set 1 = 3", "targets 255 = 0", "turned = 0",
            "count 3 = 0", "set 0 = -1");
        Calls calls = made("TURNED: no POST is a TARGET", "posts 8 = 1", "turned = 8");
        for (int v = 0; v < 8; v++) calls.due("set " + v + " = " + (1 << v));
        calls.due("set 8 = -1", "alike 1 2 = -5");
        made("TURNED: a full FAMILY goes", "TEXT posts 2;road 1 0;to 0;set;set;set;set;set;set;set;set = 11",
            "turned = 1", "count 3 = 1", "set 0 = 3", "set 1 = -1");
        made("TURNED: a FAMILY goes, that had RANKS", "posts 2 = 1", "targets 3 = 0", "add 3 = 0", "rank 1 3 = 1",
            "turned = 0", "rank 1 3 = 0", "spelled -1 = 17");
        made("v is no TARGET, rising: ROADS from TARGETS do not count",
            "TEXT posts 4;road 1 0;road 1 3;road 3 1;road 3 0;road 0 3;to 1 = 7", "turned = 3", "set 0 = 9",
            "set 1 = 4", "set 2 = 11");
        made("TURNED twice, ROADS and TARGETS stay", "TEXT posts 3;road 0 1;to 1;weigh 2 4 = 4", "turned = 2",
            "turned = 2", "SPELLED = posts 3;road 0 1;to 1;set 0 1;set 2;weigh 2 4");
        made("TURNED: a new object", "rank 1 1 = 0", "turned = 1", "set 0 = 1", "rank 1 1 = 1");
    }

    private static void strict() {
        made("STRICT: no SETS", "TEXT posts 3;road 0 1;road 2 1;to 1;weigh 1 5 = 5", "strict = 0",
            "SPELLED = posts 3;to 0;to 1;to 2;weigh 1 5");
        made("STRICT: a SET of one POST", "TEXT posts 2;set 1 = 2", "strict = 0", "SPELLED = posts 2;to 0;set 1");
        made("STRICT: SET 0 the least POST", "TEXT posts 3;set 0 1 2;set 0 1 2 = 3", "strict = 4",
            "SPELLED = posts 3;road 0 1;road 0 2;road 1 0;road 1 2;to 2;set 0 1 2;set 0 1 2");
        made("STRICT: the least POST gives way to a later SET", "TEXT posts 3;set 0 1 2;set 0 1;set 0 = 4",
            "strict = 3", "count 2 = 0", "isRoad 2 0 = 1", "isRoad 2 1 = 1", "isRoad 1 0 = 1", "alike 0 3 = -5");
        made("STRICT: none else: a ROAD that was there, the TARGETS that were",
            "TEXT posts 3;road 2 0;road 0 2;to 0;set 0 1 = 5", "strict = 1",
            "SPELLED = posts 3;road 0 1;to 1;to 2;set 0 1");
        alikeSets("STRICT: all that can be", 8).due("strict = 56", "count 1 = 56", "count 2 = 0", "count 3 = 8");
        made("STRICT twice", "TEXT posts 2;set 0 1 = 2", "strict = 1", "strict = 1",
            "SPELLED = posts 2;road 0 1;to 1;set 0 1");
    }

    private static void strictNot() {
        made("STATE: a SET without POSTS", "add 0 = 0", "strict = -3", "change 0 1 = 0", "strict = 0");
        made("STATE: two SETS of one POST", "TEXT posts 3;road 0 1;to 1;set 2;set 2 = 5", "strict = -3",
            "SPELLED = posts 3;road 0 1;to 1;set 2;set 2");
        made("STATE: more SETS than POSTS", "TEXT posts 2;set 0 1;set 0 1;set 0 1 = 4", "strict = -3", "drop 2 = 2",
            "strict = 2");
        made("STATE: three SETS of two POSTS among more", "TEXT posts 5;set 0 1 2;set 1 2;set 1 2;set 1 2 = 5",
            "strict = -3", "count 1 = 0", "count 2 = 0");
    }

    // ---- 2 small families

    private static void spareAndRoom() {
        made("SPARE of a SET without POSTS, ROOM of a SET with all", "TEXT posts 3;set;set 0 1 2 = 3", "spare 0 = 0",
            "room 1 = 0", "spare 1 = 0", "room 0 = 0");
        alikeSets("SPARE: each", 8).due("spare 0 = 255", "spare 7 = 255", "room 7 = 0", "idle = 0");
        alikeSets("SPARE: none", 1).due("spare 0 = 0", "room 0 = 0", "idle = 0");
        made("each of which alone could be taken out", "TEXT posts 1;set 0;set 0 = 3", "spare 0 = 1", "spare 1 = 1",
            "set 0 = 1", "set 1 = 1");
        made("each of which alone could come into it", "TEXT posts 3;set 0;set 1 = 3", "room 0 = 2", "room 1 = 1",
            "set 0 = 1", "set 1 = 2");
        made("a LOOP can't come in", "TEXT posts 8;set 7 = 2", "room 0 = 0", "add 0 = 1", "room 1 = 128",
            "spare 1 = 0");
        made("BASES with more POSTS are others, too", "TEXT posts 2;set 0 1;set = 3", "room 1 = 0", "room 0 = 0");
        made("the highest POST, the last SET", "TEXT posts 8;set 7;set;set;set;set;set;set;set 7 = 9", "spare 7 = 128",
            "spare 0 = 128", "room 1 = 128", "idle = 255");
    }

    private static void idle() {
        made("IDLE: no SETS", "idle = 0");
        made("IDLE: SETS without POSTS, eight of them", "add 0 = 0", "idle = 1", "add 0 = 1", "add 0 = 2", "add 0 = 3",
            "add 0 = 4", "add 0 = 5", "add 0 = 6", "add 0 = 7", "idle = 255", "change 3 1 = 0", "idle = 247");
        made("each of which alone could go", "TEXT posts 1;set 0;set 0 = 3", "idle = 3", "drop 0 = 1", "idle = 0");
        made("IDLE: not one of as many as the RANK", "TEXT posts 3;set 0 1 2;set 0 1 2;set 0 1 2 = 4", "idle = 0",
            "add 1 = 3", "idle = 15");
        made("IDLE: the other ones alone", "TEXT posts 2;set 0;set 1;set 1 = 4", "idle = 6");
    }

    private static void small() {
        made("SMALL: no SETS", "small = 0", "count 3 = 0");
        made("SETS without POSTS go, SETS that go do not count", "TEXT posts 2;set;set 0;set;set 1;set = 6",
            "small = 0", "SPELLED = posts 2;set 0;set 1");
        made("SMALL: all SETS go", "add 0 = 0", "add 0 = 1", "small = 0", "count 3 = 0", "add 1 = 0", "set 0 = 1");
        made("POSTS of SETS that come to be empty count as taken out", "TEXT posts 1;set 0;set 0 = 3", "small = 1",
            "count 3 = 1", "set 0 = 1", "small = 0");
        made("as all is then: eight like SETS", "TEXT posts 1;set 0;set 0;set 0;set 0;set 0;set 0;set 0;set 0 = 9",
            "small = 7", "count 3 = 1", "set 0 = 1", "rank 1 1 = 1");
        made("SET by SET, from 0 on, POST by POST, rising", "TEXT posts 3;set 0 1 2;set 0 1;set 0 = 4", "small = 3",
            "SPELLED = posts 3;set 2;set 1;set 0");
        alikeSets("SMALL: the most", 8).due("small = 56", "set 0 = 128", "set 7 = 1", "count 3 = 8", "rank 1 255 = 8",
            "small = 0");
        made("SMALL: a POST that was needed ahead is so still", "TEXT posts 3;set 0 1;set 0 1 2 = 3", "small = 1",
            "SPELLED = posts 3;set 0 1;set 1 2", "base 1 -1 = 3");
        made("the other SETS close up in their order", "TEXT posts 4;set 3;set;set 0 1;set;set 2 = 6", "small = 0",
            "SPELLED = posts 4;set 3;set 0 1;set 2", "set 3 = -1");
    }

    // ---- 3 rows

    private static void rows() {
        made("ROWS are missing (at first)", "count 5 = 0", "lose 0 = -11", "lose 1 = -11", "lose 2 = -11",
            "get 0 0 = least", "get 2 0 = least");
        String[] askers = {
            "row R 1", "lose R", "put R 0 0", "copy R 0 0 0 0", "copy 0 0 R 0 0", "film R 0 0 1", "judge R 0 0"
        };
        for (String asker : askers) {
            Calls calls = made("ROWS 0 .. 2", "row 0 1 = 1", "row 2 1 = 1");
            none(calls, asker, "R", "-1", "3", "min", "max");
            TALLY.isSo("the last ROW: " + asker, calls.answer(asker.replace("R", "2")) != RoadLinks.NONE);
        }
        made("a ROW holds 0 .. 40: none", "row 1 0 = 1", "get 1 0 = least", "put 1 0 1 = -13", "put 1 -1 1 = -13",
            "count 5 = 1", "lose 1 = 0", "lose 1 = -11", "count 5 = 0");
        made("a ROW holds 0 .. 40: most", "row 2 40 = 1", "put 2 39 8 = 1", "put 2 40 8 = -13", "get 2 39 = 8",
            "get 2 40 = least", "lose 2 = 40");
        made("BAD: n above 40; BELOW", "row 0 41 = -2", "row 0 max = -2", "row 0 -1 = -14", "row 0 min = -14",
            "count 5 = 0");
        made("all 0, again, too", "row 0 40 = 1", "put 0 0 1 = 1", "put 0 39 1 = 1", "row 0 40 = 1", "get 0 0 = 0",
            "get 0 39 = 0", "row 0 1 = 1", "get 0 0 = 0", "get 0 1 = least", "row 0 40 = 1", "get 0 39 = 0");
        made("all 0, behind one that went", "row 0 3 = 1", "put 0 2 5 = 1", "lose 0 = 3", "row 0 3 = 1", "get 0 2 = 0");
        made("a ROW is missing again", "row 0 2 = 1", "row 1 3 = 1", "row 2 4 = 1", "count 5 = 3", "lose 1 = 3",
            "lose 0 = 2", "lose 2 = 4", "count 5 = 0", "get 0 0 = least", "put 0 0 0 = -11");
    }

    private static void places() {
        made("put: the first, the last place, any int", "row 0 3 = 1", "put 0 0 min = 1", "put 0 2 max = 1",
            "put 0 1 -1 = 1", "get 0 0 = min", "get 0 1 = -1", "get 0 2 = max");
        made("PLACE: below, behind", "row 0 3 = 1", "put 0 -1 1 = -13", "put 0 3 1 = -13", "put 0 min 1 = -13",
            "put 0 max 1 = -13");
        made("MISSING", "put 0 0 1 = -11", "put 1 -1 1 = -11", "put 2 40 1 = -11");
        made("the least long: no such ROW", "row 0 3 = 1", "get -1 0 = least", "get 3 0 = least", "get min 0 = least",
            "get max 0 = least");
        made("the least long: missing", "get 0 0 = least", "get 1 -1 = least", "row 0 1 = 1", "lose 0 = 1",
            "get 0 0 = least");
        made("the least long: no such place", "row 0 3 = 1", "get 0 -1 = least", "get 0 3 = least", "get 0 min = least",
            "get 0 max = least", "get 0 40 = least", "get 0 2 = 0");
    }

    private static Calls five(String sentence) {
        return made(sentence, "row 0 5 = 1", "put 0 0 10 = 1", "put 0 1 11 = 1", "put 0 2 12 = 1", "put 0 3 13 = 1",
            "put 0 4 14 = 1",
            "row 1 3 = 1", "put 1 0 20 = 1", "put 1 1 21 = 1", "put 1 2 22 = 1");
    }

    private static void copied() {
        five("copy: none, at each end").due("copy 0 0 1 0 0 = 0", "copy 0 5 1 3 0 = 0", "copy 1 3 0 5 0 = 0",
            "copy 0 5 0 5 0 = 0", "get 1 0 = 20", "get 0 4 = 14");
        five("copy: all of the other one's places").due("copy 0 2 1 0 3 = 3", "get 1 0 = 12", "get 1 1 = 13",
            "get 1 2 = 14", "get 0 2 = 12");
        five("copy: one, to the last place").due("copy 0 4 1 2 1 = 1", "get 1 1 = 21", "get 1 2 = 14");
        five("copy: to its own, later, as they were").due("copy 0 0 0 1 4 = 4", "get 0 0 = 10", "get 0 1 = 10",
            "get 0 2 = 11", "get 0 3 = 12", "get 0 4 = 13");
        five("copy: to its own, earlier, as they were").due("copy 0 1 0 0 4 = 4", "get 0 0 = 11", "get 0 1 = 12",
            "get 0 2 = 13", "get 0 3 = 14", "get 0 4 = 14");
        five("copy: to its own place").due("copy 0 0 0 0 5 = 5", "get 0 0 = 10", "get 0 4 = 14");
        made("copy: 40 places", "row 0 40 = 1", "put 0 39 7 = 1", "row 2 40 = 1", "copy 0 0 2 0 40 = 40",
            "get 2 39 = 7", "copy 0 0 2 0 41 = -13", "copy 0 1 2 0 40 = -13", "copy 0 0 2 1 40 = -13");
        made("copy: between ROWS without places", "row 0 0 = 1", "row 1 0 = 1", "copy 0 0 1 0 0 = 0",
            "copy 0 0 1 0 1 = -13", "copy 0 1 1 0 0 = -13", "copy 0 0 1 1 0 = -13");
    }

    private static void copiedBeyond() {
        five("PLACE: n, i, j below 0").due("copy 0 0 1 0 -1 = -13", "copy 0 -1 1 0 1 = -13", "copy 0 0 1 -1 1 = -13",
            "copy 0 min 1 0 1 = -13", "copy 0 0 1 min 1 = -13", "copy 0 0 1 0 min = -13", "copy 0 1 1 1 -1 = -13",
            "copy 0 -1 1 0 0 = -13", "copy 0 0 1 -1 0 = -13");
        five("PLACE: beyond either's end").due("copy 0 6 1 0 0 = -13", "copy 0 5 1 0 1 = -13", "copy 0 3 1 0 3 = -13",
            "copy 0 0 1 4 0 = -13", "copy 0 0 1 3 1 = -13", "copy 0 0 1 1 3 = -13", "copy 0 0 1 0 4 = -13",
            "copy 1 0 0 0 4 = -13", "copy 1 1 0 0 3 = -13", "copy 1 0 0 3 3 = -13", "get 1 0 = 20");
        five("PLACE: so far that i plus n wraps around").due("copy 0 max 1 0 1 = -13", "copy 0 1 1 0 max = -13",
            "copy 0 max 1 0 max = -13", "copy 0 0 1 max 1 = -13", "copy 0 0 1 max max = -13",
            "copy 0 max 1 max 2 = -13", "copy 0 min 1 min min = -13", "copy 0 max 1 0 min = -13");
        five("MISSING: either").due("copy 0 0 2 0 1 = -11", "copy 2 0 0 0 1 = -11", "copy 2 0 2 0 0 = -11",
            "copy 2 -1 0 0 1 = -11");
    }

    private static void filmed() {
        made("as many as there are: a new object", "film 0 0 0 40 = 2", "get 0 0 = 0", "get 0 1 = 0", "get 0 2 = least",
            "film 0 2 0 2 = 2", "get 0 1 = 1", "film 0 2 1 40 = 1", "get 0 0 = 1", "get 0 1 = least");
        made("n of them: none", "film 0 0 0 0 = 0", "count 5 = 1", "lose 0 = 0", "film 0 0 1 0 = 0");
        made("n of them: 40 of 256", "posts 8 = 1", "film 0 2 0 40 = 40", "get 0 39 = 4", "get 0 31 = 5",
            "film 1 2 216 40 = 40", "get 1 39 = 8", "film 2 2 217 40 = 39", "get 2 38 = 8", "get 2 39 = least",
            "film 2 2 255 40 = 1", "get 2 0 = 8");
        made("BAD: n is not 0 .. 40", "film 0 0 0 41 = -2", "film 0 0 0 -1 = -2", "film 0 0 0 max = -2",
            "film 0 0 0 min = -2", "count 5 = 0");
        made("a ROW becomes RANKS: a longer one", "row 0 40 = 1", "put 0 0 9 = 1", "film 0 1 0 2 = 2", "get 0 0 = 0",
            "get 0 2 = least", "lose 0 = 2");
        made("each side", "TEXT posts 2;to 0;set 1 = 3", "film 0 0 1 3 = 3", "get 0 0 = 1", "get 0 1 = 0",
            "get 0 2 = 1", "film 0 1 1 3 = 3", "get 0 0 = 0", "get 0 1 = 1", "film 0 2 1 3 = 3", "get 0 0 = 0",
            "get 0 1 = 1", "film 0 3 1 3 = 3", "get 0 0 = 1", "get 0 1 = 0");
        made("a ROW stays as it was FILMED", "film 0 2 0 2 = 2", "targets 1 = 0", "get 0 1 = 1", "judge 0 2 0 = 1");
    }

    private static void judged() {
        made("100 and its size: no places", "row 0 0 = 1", "judge 0 0 0 = 100", "judge 0 3 1 = 100");
        made("100 and its size: 40 places", "posts 8 = 1", "film 0 2 0 40 = 40", "judge 0 2 0 = 140",
            "judge 0 3 0 = 140", "judge 0 2 1 = 0", "judge 0 0 0 = 1");
        made("the first place: 0, the last one", "posts 8 = 1", "film 0 2 100 40 = 40", "put 0 39 0 = 1",
            "judge 0 2 100 = 39", "put 0 38 0 = 1", "judge 0 2 100 = 38", "put 0 0 -1 = 1", "judge 0 2 100 = 0");
        made("a place at which there is no such set is not so", "row 0 3 = 1", "judge 0 0 0 = 2", "judge 0 0 1 = 1",
            "row 0 2 = 1", "judge 0 0 0 = 102", "row 0 1 = 1", "judge 0 0 1 = 101", "row 0 40 = 1", "posts 8 = 1",
            "judge 0 0 216 = 140", "judge 0 0 217 = 39", "judge 0 0 255 = 1");
        made("any int that is no RANK", "row 0 1 = 1", "put 0 0 min = 1", "judge 0 0 0 = 0", "put 0 0 max = 1",
            "judge 0 0 0 = 0", "put 0 0 256 = 1", "judge 0 0 0 = 0");
        made("MISSING", "judge 0 0 0 = -11", "judge 1 3 1 = -11", "row 2 1 = 1", "lose 2 = 1", "judge 2 0 0 = -11");
    }

    // ---- 3 texts

    private static void tape() {
        made("bytes 32 .. 126", "feed 31 = -2", "feed 127 = -2", "feed 32 = 1", "feed 126 = 2", "feed 0 = -2",
            "feed -1 = -2", "feed min = -2", "feed max = -2", "feed 288 = -2", "feed 65568 = -2", "count 4 = 2");
        Calls calls = made("0 .. 120 bytes", "count 4 = 0", "wipe = 0");
        for (int i = 1; i <= 120; i++) calls.due("feed 59 = " + i);
        calls.due("feed 59 = -4", "feed 126 = -4", "feed 127 = -2", "feed 31 = -2", "count 4 = 120", "wipe = 120",
            "count 4 = 0", "wipe = 0", "feed 59 = 1", "wipe = 1");
        made("THE TAPE is empty: what was there is gone", "FEED posts 8;to 1 = 12", "wipe = 12", "FEED to = 2",
            "read = -102", "TEXT to 0 = 1");
    }

    private static void texts() {
        made("STATEMENTS, one or more: none", "read = -100", "TEXT ; = -100", "read = -100");
        made("STATEMENTS, one or more: one", "TEXT posts 1 = 1", "TEXT posts 8 = 1", "TEXT road 0 7 = 1",
            "TEXT block 0 7 = 1", "TEXT to 7 = 1", "TEXT set = 1", "TEXT set 7 = 1", "TEXT weigh 7 0 = 1",
            "TEXT weigh 7 99 = 1", "SPELLED = posts 8;to 7;set;set 7;weigh 7 99");
        String eightSets = "set;set;set;set;set;set;set;set;";
        made("STATEMENTS: the most in 120 bytes",
            "TEXT " + eightSets + "posts 1;" + eightSets + "posts 1;" + eightSets + "posts 1 = 27");
        StringBuilder full = new StringBuilder("TEXT to 0");
        for (int i = 0; i < 22; i++) full.append(";to 0");
        made("a TEXT of 120 bytes", full + ";set 0 = 24", "count 4 = 0", "count 3 = 1");
        made("set, then any number of N: told twice counts once", "posts 8 = 1", "TEXT set 7 7 7 7 = 1", "set 0 = 128",
            "TEXT set 0 1 2 3 4 5 6 7 7 6 5 4 3 2 1 0 0 1 2 3 4 5 6 7 7 6 5 4 3 2 1 0 = 1", "set 1 = 255",
            "TEXT set = 1", "set 2 = 0");
        made("V: 1 or 2 figures", "TEXT weigh 0 7 = 1", "count 6 = 7", "TEXT weigh 0 10 = 1", "count 6 = 10",
            "TEXT weigh 0 07 = 1", "count 6 = 7", "TEXT weigh 0 00 = 1", "count 6 = 0", "TEXT weigh 0 99 = 1",
            "count 6 = 99", "TEXT weigh 0 0 = 1", "count 6 = 0", "TEXT weigh 0 90;weigh 0 9 = 2", "count 6 = 9");
        made("block: that ROAD is none any more, or never was",
            "TEXT posts 2;road 1 0;block 0 1;block 1 0;block 1 0 = 5", "count 1 = 0");
        made("to: a TARGET more, one that is one, too", "TEXT posts 2;to 1;to 0;to 1 = 4", "count 2 = 3");
        made("posts: as by posts()", "TEXT posts 2;road 0 1;to 0;set 0;weigh 0 1;posts 2 = 6", "SPELLED = posts 2");
    }

    private static void textsRefused() {
        made("-300 less how many are ahead: none", "TEXT posts 0 = -300", "TEXT posts 9 = -300", "TEXT road 0 0 = -300",
            "TEXT block 0 0 = -300", "TEXT road 0 1 = -300", "TEXT road 1 0 = -300", "TEXT block 0 1 = -300",
            "TEXT block 9 0 = -300", "TEXT to 1 = -300", "TEXT to 9 = -300", "TEXT set 1 = -300",
            "TEXT set 0 9 0 = -300", "TEXT weigh 1 0 = -300", "TEXT weigh 9 99 = -300", "SPELLED = posts 1",
            "count 4 = 0");
        made("which stay done", "TEXT posts 3;to 2;posts 0;to 1 = -302", "SPELLED = posts 3;to 2",
            "TEXT road 0 1;road 1 1;to 0 = -301", "SPELLED = posts 3;road 0 1;to 2",
            "TEXT block 0 1;set 0 2;set 3;set 1 = -302", "SPELLED = posts 3;to 2;set 0 2",
            "TEXT weigh 0 9;weigh 3 9;weigh 1 9 = -301", "SPELLED = posts 3;to 2;set 0 2;weigh 0 9", "count 4 = 0");
        made("by what is then: POSTS that are gone", "TEXT posts 8;to 7;posts 7;to 7 = -303", "SPELLED = posts 7");
        made("as its call would refuse it: SETS are FULL", "TEXT set;set;set;set;set;set;set;set;set = -308",
            "count 3 = 8", "TEXT set = -300", "TEXT set 0 = -300", "TEXT to 0;set;to 0 = -301", "count 2 = 1");
        String eightSets = "set;set;set;set;set;set;set;set";
        made("-300 less how many are ahead: the most",
            "TEXT " + eightSets + ";posts 1;" + eightSets + ";posts 1;" + eightSets + ";to 0;set = -327", "count 3 = 8",
            "count 2 = 1");
    }

    private static void fault(String sentence, String text, int place) {
        made(sentence, "TEXT posts 4;road 0 1;to 1;set 0;weigh 0 1 = 5", "TEXT " + text + " = " + (-100 - place),
            "count 4 = 0", "SPELLED = posts 4;road 0 1;to 1;set 0;weigh 0 1");
    }

    private static void faults() {
        String word = "a WORD that is none of these: where it begins";
        String[] words = {
            "post", "postss", "roads", "roa", "rod", "too", "t", "sets", "se", "weight", "weig", "blocks", "x", "tapes"
        };
        for (String none : words) {
            fault(word, none, 0);
            fault(word, none + " 0 1", 0);
            fault(word, "to 0;" + none, 5);
            fault(word, "to 0;" + none + ";to 0", 5);
        }
        String empty = "an empty WORD, too: where it begins";
        for (String none : new String[] {"", " ", " to 0", "0", "TO 0", "To 0", "~", ";", "`", "{", "@", "["}) {
            if (!none.isEmpty()) fault(empty, none, 0);
            fault(empty, "to 0;" + none, 5);
            fault(empty, "set;" + none + ";to 0", 4);
        }
        String end = "the length, if it ends too early";
        String[] starts = {
            "posts", "posts ", "road", "road ", "road 0", "road 0 ", "block", "block ", "block 0", "block 0 ", "to",
            "to ", "set ", "set 0 ", "weigh", "weigh ", "weigh 0", "weigh 0 "
        };
        for (String early : starts) {
            fault(end, early, early.length());
            fault(end, "to 0;" + early, 5 + early.length());
            fault("a STATEMENT that ends too early: the place of its ;", early + ";to 0", early.length());
        }
        String first = "the place of the first byte with which no TEXT goes on";
        fault(first, "posts 4x", 7);
        fault(first, "posts 44", 7);
        fault(first, "posts -1", 6);
        fault(first, "posts /", 6);
        fault(first, "posts :", 6);
        fault(first, "road 0  1", 7);
        fault(first, "road  x", 5);
        fault(first, "road   ", 5);
        fault(first, "block  ;", 6);
        fault(first, "weigh  x 1", 6);
        fault(first, "roadx;road  x", 0);
        fault(first, "to  x;to 0", 3);
        fault(first, "set  x", 4);
        fault(first, "set 0 x 1", 6);
        fault(first, "road 0,1", 6);
        fault(first, "road 10 1", 6);
        fault(first, "road 0 10", 8);
        fault(first, "to 0 ", 4);
        fault(first, "to 0 1", 4);
        fault(first, "set 01", 5);
        fault(first, "set  ", 4);
        fault(first, "set 0,1", 5);
        fault(first, "weigh 0 100", 10);
        fault(first, "weigh 0 1 ", 9);
        fault(first, "weigh 0 10 ", 10);
        fault(first, "weigh 0 1 0", 9);
        fault(first, "weigh 0 1x", 9);
        fault(first, "weigh 0 10x", 10);
        fault(first, "posts 3 ;to 0", 7);
        fault("the whole TEXT is read for it first", "posts 2;to 1;posts 9;foo", 21);
        fault("the first of two FAULTS", "to 0x;foo", 4);
        fault("the first of two FAULTS", "foo;to 0x", 0);
        StringBuilder full = new StringBuilder("set");
        for (int i = 0; i < 29; i++) full.append(";set");
        fault("the greatest place: an empty WORD behind 120 bytes", full + ";", 120);
        fault("the length, if it ends too early, is 120 at most", full.substring(4) + ";road", 120);
        fault("the last byte of 120", full + "~", 119);
    }

    /** A text with each kind of statement, with one byte made another one at each place. */
    private static void faultsAtEachPlace() {
        String text = "posts 4;road 0 1;block 0 1;to 2;set;set 0 3;weigh 1 9;weigh 2 10";
        made("no FAULT", "TEXT " + text + " = 8");
        int begin = 0;
        for (int i = 0; i < text.length(); i++) {
            boolean isLetter = Character.isLowerCase(text.charAt(i));
            boolean isBehindWord = i > 0 && Character.isLowerCase(text.charAt(i - 1));
            fault("~ at place " + i, text.substring(0, i) + "~" + text.substring(i + 1), isLetter ? begin : i);
            fault("z at place " + i, text.substring(0, i) + "z" + text.substring(i + 1),
                isLetter || isBehindWord ? begin : i);
            if (text.charAt(i) == ';') begin = i + 1;
        }
    }

    private static void spelled() {
        made("SPELLED: a new object", "SPELLED = posts 1", "spelled -1 = 7", "spelled 0 = 112", "spelled 6 = 49",
            "spelled 7 = -1");
        made("NONE", "spelled -2 = -1", "spelled min = -1", "spelled max = -1", "spelled 120 = -1", "spelled 800 = -1");
        made("WEIGHTS above 0", "posts 8 = 1", "weigh 0 1 = 0", "weigh 7 99 = 0", "weigh 3 9 = 0", "weigh 4 10 = 0",
            "weigh 5 0 = 0", "SPELLED = posts 8;weigh 0 1;weigh 3 9;weigh 4 10;weigh 7 99");
        made("rising; SET by SET",
            "TEXT posts 8;set 7 0;set 0;set;set 0 7;to 7;to 0;road 7 0;road 0 7;road 7 6;road 0 1 = 11",
            "SPELLED = posts 8;road 0 1;road 0 7;road 7 0;road 7 6;to 0;to 7;set 0 7;set 0;set;set 0 7");
        Calls most = alikeSets("SPELLED: the longest", 8).due("strict = 56", "targets 255 = 0");
        for (int i = 0; i < 8; i++) most.due("weigh " + i + " 99 = 0");
        most.due("spelled -1 = 799", "spelled 798 = 57", "spelled 797 = 57", "spelled 799 = -1", "spelled 7 = 59",
            "spelled 8 = 114");
        String text = "posts 5;road 0 4;road 4 0;to 0;to 4;set;set 0 1 2 3 4;set 2;weigh 0 1;weigh 4 99";
        made("a TEXT that makes this table from a new one", "TEXT " + text + " = 10", "SPELLED = " + text);
    }

    private static void spelledBehindEachChange() {
        made("SPELLED is by what is now", "posts 3 = 1", "SPELLED = posts 3", "road 2 1 1 = 0",
            "SPELLED = posts 3;road 2 1", "targets 2 = 0", "SPELLED = posts 3;road 2 1;to 1", "add 6 = 0",
            "spelled -1 = 29", "change 0 1 = 6", "SPELLED = posts 3;road 2 1;to 1;set 0", "weigh 1 4 = 0",
            "spelled -1 = 37", "image = 3", "drop 0 = 0", "spelled -1 = 31", "turned = 2",
            "SPELLED = posts 3;road 2 1;to 1;set 0;set 1 2;weigh 1 4", "strict = 1",
            "SPELLED = posts 3;road 1 2;to 2;set 0;set 1 2;weigh 1 4", "undo = 3",
            "SPELLED = posts 3;road 2 1;to 1;set 0;weigh 1 4", "add 1 = 1", "spelled -1 = 43", "small = 1",
            "spelled -1 = 37");
    }

    // ---- 3 image, counts

    private static void image() {
        made("STATE: there is none", "undo = -3", "posts 2 = 1", "undo = -3", "image = 2", "undo = 2");
        made("THE IMAGE: POSTS, ROADS, TARGETS, WEIGHTS, THE FAMILY",
            "TEXT posts 8;road 7 0;to 7;set 7;set;weigh 7 99 = 6", "image = 8", "posts 1 = 8", "undo = 8",
            "SPELLED = posts 8;road 7 0;to 7;set 7;set;weigh 7 99", "rank 0 255 = 1", "rank 1 128 = 1");
        made("THE IMAGE is not what is changed later", "posts 2 = 1", "image = 2", "road 0 1 1 = 0", "targets 3 = 0",
            "add 3 = 0", "weigh 1 5 = 0", "undo = 2", "SPELLED = posts 2", "road 1 0 1 = 0", "targets 1 = 0",
            "add 1 = 0", "weigh 0 6 = 0", "undo = 2", "SPELLED = posts 2");
        made("not ROWS, THE TAPE", "row 0 2 = 1", "FEED to = 2", "image = 1", "put 0 1 5 = 1", "row 1 1 = 1",
            "FEED  0 = 4", "undo = 1", "get 0 1 = 5", "count 5 = 2", "count 4 = 4", "read = 1", "count 2 = 1");
        made("an image of a new object", "image = 1", "posts 8 = 1", "add 255 = 0", "undo = 1", "SPELLED = posts 1");
        made("the later image", "image = 1", "posts 5 = 1", "image = 5", "posts 2 = 5", "undo = 5", "undo = 5",
            "count 0 = 5");
        made("an image by a TEXT's changes", "image = 1", "TEXT posts 4;to 3 = 2", "undo = 1", "count 2 = 0",
            "TEXT to 3 = -300");
    }

    private static void counts() {
        Calls first = made("a new object: one POST, no ROADS, no TARGETS, no SETS", "count 0 = 1");
        for (int what = 1; what <= 6; what++) first.due("count " + what + " = 0");
        first.due("count 7 = -1", "count -1 = -1", "count min = -1", "count max = -1");
        Calls most = alikeSets("counts: the most", 8).due("strict = 56", "targets 255 = 0", "row 0 0 = 1",
            "row 1 40 = 1", "row 2 1 = 1");
        for (int i = 0; i < 8; i++) most.due("weigh " + i + " 99 = 0");
        for (int i = 1; i <= 120; i++) most.due("feed 120 = " + i);
        List<String> due = new ArrayList<>();
        int[] wanted = {8, 56, 255, 8, 120, 3, 792};
        for (int what = 0; what < wanted.length; what++) due.add("count " + what + " = " + wanted[what]);
        most.due(due.toArray(new String[0]));
    }
}
