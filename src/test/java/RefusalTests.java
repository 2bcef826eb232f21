/**
 * Each refused call of the document: of several refusals the first that the call's words name, and nothing changes
 * (a second object, made likewise, is as it was). Lines with two reasons stand behind those with one.
 */
public final class RefusalTests {
    private static final Tally TALLY = new Tally("refusals");

    /** Bases of side 0: 9, 10, 12; of 1: 3, 5, 6; of 2: 3, 5, 6; of 3: 9, 10, 12. Row 2 is missing. */
    private static final String[] FOUR_POSTS = {
        "TEXT posts 2;to 1;weigh 0 3 = 3", "image = 2",
        "TEXT posts 4;road 0 1;road 1 2;to 2;to 3;set 0 1;set 1 2;weigh 3 99 = 8",
        "row 0 2 = 1", "put 0 0 7 = 1", "put 0 1 -7 = 1", "row 1 0 = 1", "FEED to 0 = 4"
    };

    /** All that can be full is full. */
    private static final String[] FULL = {
        "image = 1", "posts 8 = 1", "targets 255 = 0", "add 255 = 0", "add 1 = 1", "add 2 = 2", "add 4 = 3",
        "add 8 = 4", "add 0 = 5", "add 0 = 6", "add 128 = 7", "row 0 40 = 1", "row 1 40 = 1", "put 1 39 5 = 1",
        "FEED to 0;to 0;to 0;to 0;to 0;to 0;to 0;to 0;to 0;to 0;to 0;to 0; = 60",
        "FEED to 0;to 0;to 0;to 0;to 0;to 0;to 0;to 0;to 0;to 0;to 0;set 7 = 120"
    };

    private static final String[] NO_IMAGE = {"TEXT posts 2;road 1 0;to 0;set 1 = 4", "FEED set = 3", "row 2 1 = 1"};

    private RefusalTests() {
    }

    public static void main(String[] args) {
        posts();
        sets();
        sides();
        exchanges();
        links();
        rows();
        tapeAndImage();
        full();
        TALLY.end();
    }

    /** Each line is a call on an object of its own. */
    private static void refused(String[] made, String... lines) {
        String seen = new Calls(TALLY, "made").due(made).seen();
        for (String line : lines) {
            Calls calls = new Calls(TALLY, "refused").due(made).due(line);
            TALLY.dueText("behind " + line + " all", calls.seen(), seen);
        }
    }

    private static void posts() {
        refused(FOUR_POSTS, "posts 0 = -2", "posts 9 = -2", "posts -1 = -2", "posts min = -2", "posts max = -2");
        refused(FOUR_POSTS, "road 4 0 1 = -1", "road 0 4 1 = -1", "road -1 0 1 = -1", "road 0 -1 1 = -1",
            "road 0 1 2 = -2", "road 0 1 -1 = -2", "road 0 0 1 = -3", "road 3 3 0 = -3");
        refused(FOUR_POSTS, "road 4 0 2 = -1", "road 0 4 2 = -1", "road 4 4 1 = -1", "road -1 -1 0 = -1",
            "road 4 4 2 = -1", "road 0 0 2 = -2", "road 3 3 -1 = -2");
        refused(FOUR_POSTS, "isRoad 4 0 = -1", "isRoad 0 4 = -1", "isRoad -1 0 = -1", "isRoad 0 -1 = -1",
            "isRoad 4 4 = -1");
        refused(FOUR_POSTS, "targets 16 = -2", "targets -1 = -2", "targets min = -2", "targets max = -2");
        refused(FOUR_POSTS, "weigh 4 1 = -1", "weigh -1 1 = -1", "weigh 0 100 = -2", "weigh 3 -1 = -2",
            "weigh 4 100 = -1", "weigh -1 -1 = -1");
    }

    private static void sets() {
        refused(FOUR_POSTS, "add 16 = -2", "add -1 = -2");
        refused(FOUR_POSTS, "change 2 1 = -1", "change -1 1 = -1", "change 0 16 = -2", "change 1 -1 = -2",
            "change 2 16 = -1", "change -1 -1 = -1");
        refused(FOUR_POSTS, "drop 2 = -1", "drop -1 = -1", "set 2 = -1", "set -1 = -1", "spare 2 = -1", "spare -1 = -1",
            "room 2 = -1", "room -1 = -1");
    }

    private static void sides() {
        refused(FOUR_POSTS, "rank 4 0 = -1", "rank -1 0 = -1", "rank 0 16 = -2", "rank 3 -1 = -2", "rank 4 16 = -1",
            "rank -1 -1 = -1");
        refused(FOUR_POSTS, "free 4 0 = -1", "free -1 0 = -1", "free 0 16 = -2", "free 3 -1 = -2", "free 4 16 = -1",
            "free -1 -1 = -1");
        refused(FOUR_POSTS, "shut 4 0 = -1", "shut -1 0 = -1", "shut 0 16 = -2", "shut 3 -1 = -2", "shut 4 16 = -1",
            "shut -1 -1 = -1");
        refused(FOUR_POSTS, "base 4 0 = -1", "base -1 -1 = -1", "base 0 3 = -1", "base 0 -2 = -1", "base 4 -2 = -1",
            "base 3 3 = -1");
        refused(FOUR_POSTS, "circuit 4 0 = -1", "circuit -1 -1 = -1", "circuit 0 3 = -1", "circuit 0 -2 = -1",
            "circuit 4 -2 = -1");
        refused(FOUR_POSTS, "flat 4 0 = -1", "flat -1 -1 = -1", "flat 0 4 = -1", "flat 0 -2 = -1", "flat 4 -2 = -1");
        refused(FOUR_POSTS, "loops 4 0 = -1", "loops -1 1 = -1", "loops 0 2 = -1", "loops 0 -1 = -1", "loops 4 2 = -1");
        refused(FOUR_POSTS, "steps 4 = -1", "steps -1 = -1", "steps min = -1", "steps max = -1");
        refused(FOUR_POSTS, "heaviest 4 0 = -1", "heaviest -1 1 = -1", "heaviest 0 2 = -1", "heaviest 3 -1 = -1",
            "heaviest 4 2 = -1");
        refused(FOUR_POSTS, "alike 4 0 = -1", "alike 0 4 = -1", "alike -1 0 = -1", "alike 0 -1 = -1", "alike 4 4 = -1",
            "alike -1 -1 = -1", "alike 0 3 = -5", "alike 1 2 = -5", "alike 2 2 = -5");
    }

    private static void exchanges() {
        refused(FOUR_POSTS, "round 4 9 1 = -1", "round -1 9 1 = -1", "round 0 9 4 = -1", "round 0 9 -1 = -1",
            "round 0 16 1 = -2", "round 0 -1 1 = -2", "round 0 3 2 = -5", "round 0 8 0 = -5", "round 0 9 0 = -5",
            "round 0 9 3 = -5");
        refused(FOUR_POSTS, "round 4 16 1 = -1", "round 0 16 4 = -1", "round 4 3 0 = -1", "round 0 3 4 = -1",
            "round 0 16 0 = -2", "round 0 -1 3 = -2", "round 0 3 0 = -5");
        refused(FOUR_POSTS, "swap 4 9 10 0 = -1", "swap -1 9 10 0 = -1", "swap 0 9 10 4 = -1", "swap 0 9 10 -1 = -1",
            "swap 0 16 10 0 = -2", "swap 0 -1 10 0 = -2", "swap 0 9 16 0 = -2", "swap 0 9 -1 0 = -2",
            "swap 0 3 10 0 = -5", "swap 0 9 3 3 = -5", "swap 0 9 10 1 = -5", "swap 0 9 10 3 = -5", "swap 0 9 9 0 = -5");
        refused(FOUR_POSTS, "swap 4 16 16 4 = -1", "swap 0 16 10 4 = -1", "swap 0 9 16 4 = -1", "swap 4 3 3 0 = -1",
            "swap 0 3 3 4 = -1", "swap 0 3 16 0 = -2", "swap 0 16 3 0 = -2", "swap 0 16 16 1 = -2",
            "swap 0 9 16 1 = -2", "swap 0 3 3 2 = -5");
        refused(FOUR_POSTS, "less 4 0 0 1 = -1", "less -1 0 0 1 = -1", "less 0 16 0 0 = -2", "less 0 0 16 0 = -2",
            "less 0 0 0 16 = -2", "less 0 -1 0 0 = -2", "less 0 0 -1 0 = -2", "less 0 0 0 -1 = -2", "less 0 1 1 0 = -2",
            "less 0 1 0 1 = -2", "less 0 0 1 1 = -2");
        refused(FOUR_POSTS, "less 4 16 0 0 = -1", "less 4 1 1 0 = -1", "less -1 0 1 1 = -1", "less 0 1 1 16 = -2",
            "less 0 15 15 15 = -2");
    }

    private static void links() {
        refused(FOUR_POSTS, "cut 16 = -2", "cut -1 = -2", "cut min = -2", "cut max = -2", "reach 16 = -2",
            "reach -1 = -2", "reach min = -2", "reach max = -2");
        refused(FOUR_POSTS, "partners 16 = -2", "partners -1 = -2", "partners 8 = -5", "partners 7 = -5",
            "partners 15 = -5");
        String[] twoOfOne = FOUR_POSTS.clone();
        twoOfOne[2] = "TEXT posts 4;road 0 1;road 1 2;to 2;to 3;set 1;set 1 = 7";
        refused(twoOfOne, "strict = -3", "partners 3 = -5");
    }

    private static void rows() {
        refused(FOUR_POSTS, "row 3 1 = -1", "row -1 1 = -1", "row 0 41 = -2", "row 2 41 = -2", "row 0 -1 = -14",
            "row 2 -1 = -14", "row 3 41 = -1", "row -1 -1 = -1", "row 3 -1 = -1");
        refused(FOUR_POSTS, "lose 3 = -1", "lose -1 = -1", "lose 2 = -11");
        refused(FOUR_POSTS, "put 3 0 1 = -1", "put -1 0 1 = -1", "put 2 0 1 = -11", "put 0 2 1 = -13",
            "put 0 -1 1 = -13", "put 1 0 1 = -13", "put 3 -1 1 = -1", "put 2 -1 1 = -11", "put 2 40 1 = -11");
        refused(FOUR_POSTS, "get 3 0 = least", "get -1 0 = least", "get 2 0 = least", "get 0 2 = least",
            "get 0 -1 = least", "get 1 0 = least");
        refused(FOUR_POSTS, "copy 3 0 0 0 1 = -1", "copy 0 0 3 0 1 = -1", "copy -1 0 0 0 1 = -1",
            "copy 0 0 -1 0 1 = -1", "copy 2 0 0 0 1 = -11", "copy 0 0 2 0 1 = -11", "copy 0 0 0 0 -1 = -13",
            "copy 0 -1 0 0 1 = -13", "copy 0 0 0 -1 1 = -13", "copy 0 2 0 0 1 = -13", "copy 0 0 0 2 1 = -13",
            "copy 0 0 0 0 3 = -13", "copy 0 0 1 0 1 = -13", "copy 1 0 0 0 1 = -13", "copy 0 3 0 0 0 = -13",
            "copy 0 0 1 1 0 = -13");
        refused(FOUR_POSTS, "copy 3 0 2 0 1 = -1", "copy 2 0 3 0 1 = -1", "copy 3 -1 0 0 1 = -1",
            "copy 0 -1 3 0 1 = -1", "copy 2 -1 0 0 1 = -11", "copy 0 0 2 -1 1 = -11", "copy 0 9 2 0 1 = -11",
            "copy 2 0 0 0 -1 = -11");
        refused(FOUR_POSTS, "film 3 0 0 1 = -1", "film -1 0 0 1 = -1", "film 0 4 0 1 = -1", "film 0 -1 0 1 = -1",
            "film 0 0 16 1 = -2", "film 0 0 -1 1 = -2", "film 0 0 0 41 = -2", "film 0 0 0 -1 = -2",
            "film 2 0 0 41 = -2");
        refused(FOUR_POSTS, "film 3 0 16 1 = -1", "film 0 4 16 1 = -1", "film 3 4 0 41 = -1", "film 0 4 0 -1 = -1",
            "film 0 0 16 41 = -2");
        refused(FOUR_POSTS, "judge 3 0 0 = -1", "judge -1 0 0 = -1", "judge 0 4 0 = -1", "judge 0 -1 0 = -1",
            "judge 0 0 16 = -2", "judge 0 0 -1 = -2", "judge 2 0 0 = -11");
        refused(FOUR_POSTS, "judge 3 0 16 = -1", "judge 0 4 16 = -1", "judge 2 4 0 = -1", "judge 2 0 16 = -2",
            "judge 2 0 -1 = -2");
    }

    private static void tapeAndImage() {
        refused(FOUR_POSTS, "feed 31 = -2", "feed 127 = -2", "feed min = -2", "feed max = -2");
        refused(FOUR_POSTS, "spelled -2 = -1", "spelled min = -1", "spelled max = -1", "spelled 200 = -1");
        refused(FOUR_POSTS, "count -1 = -1", "count 7 = -1", "count min = -1", "count max = -1");
        refused(NO_IMAGE, "undo = -3");
    }

    private static void full() {
        refused(FULL, "add 0 = -4", "add 255 = -4", "add 256 = -2", "add -1 = -2", "change 8 0 = -1", "drop 8 = -1",
            "set 8 = -1", "spare 8 = -1", "room 8 = -1");
        refused(FULL, "feed 32 = -4", "feed 126 = -4", "feed 31 = -2", "feed 127 = -2");
        refused(FULL, "row 0 41 = -2", "put 0 40 1 = -13", "get 0 40 = least", "copy 0 1 1 0 40 = -13",
            "copy 0 0 1 1 40 = -13", "copy 0 0 1 0 41 = -13", "lose 2 = -11");
        refused(FULL, "posts 9 = -2", "targets 256 = -2", "weigh 8 0 = -1", "road 7 8 1 = -1", "strict = -3",
            "partners 255 = -5", "partners 256 = -2", "rank 0 256 = -2", "cut 256 = -2", "reach 256 = -2",
            "film 0 0 256 1 = -2", "judge 0 0 256 = -2", "less 0 256 0 0 = -2", "round 0 255 7 = -5",
            "round 0 255 8 = -1", "swap 0 255 255 0 = -5");
    }
}
