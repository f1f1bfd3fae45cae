import java.util.function.Consumer;

/** Promises 8 to 11: cost, setVector, search, vector. */
public final class LinksTest {
    private static final int MIN = Check.MIN;
    private static final int MAX = Check.MAX;
    private static final int[] NO_LINKS = {-1, 3, 4, MIN, MAX};
    private static final int[] NO_BLOCKS = {-1, 4, 5, MIN, MAX};
    private static final int[] NO_STEPS = {-1, 25, 26, MIN, MAX};
    private static final int[] PREDICTED = {1, 1, 3};
    private static final int[] SOURCE = {0, 2, 2};
    private static final Consumer<TemporalLift> USED = Scenes::everythingInUse;

    public static void main(String[] args) {
        costSumsOverTheBlock();
        costIsOfTheBlocksOwnPixels();
        costLooksWhereTheVectorPoints();
        costTakesTheNearestPixelOutside();
        costIsOfWorkingFrames();
        costRefuses();
        setVectorAnswersTheOneBefore();
        setVectorChangesOneVector();
        setVectorRefuses();
        searchFindsAMovedFrame();
        searchPrefersLeastCost();
        searchStaysWhereAllCostTheSame();
        searchTakesTheLeastSum();
        searchTakesTheLeastDy();
        searchTakesTheLeastDx();
        searchSettlesTheTieOfEveryTwo();
        searchSumsTwelveCosts();
        searchChangesOnlyWorkingVectors();
        vectorAnswers();
        vectorRefuses();
        Check.end();
    }

    private static int step(int dx, int dy) {
        return 5 * (dx + 2) + (dy + 2);
    }

    private static void costSumsOverTheBlock() {
        for (int link = 0; link < 3; link++) {
            TemporalLift t = new TemporalLift();
            t.ramp(PREDICTED[link], 0, 0, 10);
            t.ramp(SOURCE[link], 0, 0, 3);
            for (int block = 0; block < 4; block++) {
                for (int step = 0; step < 25; step++) {
                    Check.same("cost(" + link + ", " + block + ", " + step + ")", t.cost(link, block, step), 16 * 7);
                }
            }
            t.ramp(SOURCE[link], 0, 0, 255);
            t.ramp(PREDICTED[link], 0, 0, 0);
            Check.same("the greatest cost", t.cost(link, 3, 0), 16 * 255);
        }
    }

    /** One grey pixel of the predicted frame costs its value in the block that has it and in no other. */
    private static void costIsOfTheBlocksOwnPixels() {
        int[] blockOfRowsAbove = {0, 0, 0, 0, 1, 1, 1, 1};
        int[] blockOfRowsBelow = {2, 2, 2, 2, 3, 3, 3, 3};
        for (int link = 0; link < 3; link++) {
            for (int i = 0; i < 64; i++) {
                TemporalLift t = new TemporalLift();
                t.put(PREDICTED[link], i % 8, i / 8, 100);
                int has = i / 8 < 4 ? blockOfRowsAbove[i % 8] : blockOfRowsBelow[i % 8];
                for (int block = 0; block < 4; block++) {
                    Check.same("cost of block " + block + " of link " + link + " with pixel " + i,
                            t.cost(link, block, 12), block == has ? 100 : 0);
                }
            }
        }
    }

    /** One grey pixel of the source costs its value in just the blocks from which the vector sees it. */
    private static void costLooksWhereTheVectorPoints() {
        for (int link = 0; link < 3; link++) {
            TemporalLift t = new TemporalLift();
            t.put(SOURCE[link], 5, 1, 100);
            Check.same("link " + link + ", (2, 0)", t.cost(link, 0, step(2, 0)), 100);
            Check.same("link " + link + ", (2, 1)", t.cost(link, 0, step(2, 1)), 100);
            Check.same("link " + link + ", (2, 2)", t.cost(link, 0, step(2, 2)), 0);
            Check.same("link " + link + ", (2, -2)", t.cost(link, 0, step(2, -2)), 100);
            Check.same("link " + link + ", (1, 0)", t.cost(link, 0, step(1, 0)), 0);
            Check.same("link " + link + ", (0, 2)", t.cost(link, 0, step(0, 2)), 0);
            Check.same("link " + link + ", block 1 (0, 0)", t.cost(link, 1, step(0, 0)), 100);
            Check.same("link " + link + ", block 1 (2, 0)", t.cost(link, 1, step(2, 0)), 0);
            Check.same("link " + link + ", block 3 (0, -2)", t.cost(link, 3, step(0, -2)), 0);
            t.put(SOURCE[link], 5, 1, 0);
            t.put(SOURCE[link], 1, 3, 100);
            Check.same("link " + link + ", block 2 (0, -1)", t.cost(link, 2, step(0, -1)), 100);
            Check.same("link " + link + ", block 2 (0, 1)", t.cost(link, 2, step(0, 1)), 0);
            Check.same("link " + link + ", block 1 (-2, 0)", t.cost(link, 1, step(-2, 0)), 0);
            t.put(PREDICTED[link], 1, 4, 130);
            Check.same("link " + link + ", block 2 (0, -1) meets", t.cost(link, 2, step(0, -1)), 30);
            Check.same("link " + link + ", block 2 (1, -1) misses", t.cost(link, 2, step(1, -1)), 230);
            Check.same("link " + link + ", block 2 (0, 0)", t.cost(link, 2, step(0, 0)), 130);
            Check.same("link " + link + ", block 0 (0, 0)", t.cost(link, 0, step(0, 0)), 100);
        }
        TemporalLift t = new TemporalLift();
        t.put(0, 0, 0, 1);
        t.put(1, 0, 0, 10);
        t.put(2, 0, 0, 100);
        t.put(3, 0, 0, 200);
        Check.same("link 0 is of frames 1 and 0", t.cost(0, 0, 12), 9);
        Check.same("link 1 is of frames 1 and 2", t.cost(1, 0, 12), 90);
        Check.same("link 2 is of frames 3 and 2", t.cost(2, 0, 12), 100);
    }

    private static void costTakesTheNearestPixelOutside() {
        int[][] corners = {{0, 0, 0, -2, -2}, {1, 7, 0, 2, -2}, {2, 0, 7, -2, 2}, {3, 7, 7, 2, 2}};
        for (int[] c : corners) {
            TemporalLift t = new TemporalLift();
            t.put(2, c[1], c[2], 50);
            String name = "block " + c[0] + " out of its corner";
            Check.same(name + " by both", t.cost(2, c[0], step(c[3], c[4])), 9 * 50);
            Check.same(name + " by dx", t.cost(2, c[0], step(c[3], 0)), 3 * 50);
            Check.same(name + " by dy", t.cost(2, c[0], step(0, c[4])), 3 * 50);
            Check.same(name + " not at all", t.cost(2, c[0], step(0, 0)), 50);
            Check.same(name + " by one each", t.cost(2, c[0], step(c[3] / 2, c[4] / 2)), 4 * 50);
            Check.same(name + " inwards", t.cost(2, c[0], step(-c[3], -c[4])), 0);
        }
    }

    private static void costIsOfWorkingFrames() {
        TemporalLift t = new TemporalLift();
        t.ramp(1, 0, 0, 20);
        t.encode(0);
        t.decode(0);
        t.ramp(1, 0, 0, 5);
        t.setVector(0, 0, 3);
        Check.same("cost after decode", t.cost(0, 0, 12), 16 * 5);
        t.adopt();
        Check.same("cost after adopt", t.cost(0, 0, 12), 16 * 20);
        Check.changesNothing("cost", USED, u -> u.cost(1, 2, 3));
    }

    private static void costRefuses() {
        TemporalLift t = new TemporalLift();
        Scenes.everythingInUse(t);
        for (int link : NO_LINKS) {
            Check.same("cost of link " + link, t.cost(link, 0, 0), -1);
            Check.same("cost of link " + link + ", all wrong", t.cost(link, 4, 25), -1);
        }
        for (int block : NO_BLOCKS) {
            Check.same("cost of block " + block, t.cost(0, block, 0), -2);
            Check.same("cost of block " + block + ", step wrong", t.cost(2, block, -1), -2);
        }
        for (int step : NO_STEPS) {
            Check.same("cost of step " + step, t.cost(2, 3, step), -3);
        }
        Check.changesNothing("a refused cost", USED, u -> {
            u.cost(3, 0, 0);
            u.cost(0, 4, 0);
            u.cost(0, 0, 25);
        });
    }

    private static void setVectorAnswersTheOneBefore() {
        TemporalLift t = new TemporalLift();
        for (int i = 0; i < 12; i++) {
            int before = 12;
            for (int step = 0; step < 25; step++) {
                Check.same("setVector(" + i / 4 + ", " + i % 4 + ", " + step + ")", t.setVector(i / 4, i % 4, step), before);
                before = step;
            }
            Check.same("setVector(" + i / 4 + ", " + i % 4 + ", 12)", t.setVector(i / 4, i % 4, 12), before);
        }
    }

    private static void setVectorChangesOneVector() {
        int[] before = State.after(USED);
        for (int i = 0; i < 12; i++) {
            int link = i / 4;
            int block = i % 4;
            int[] due = before.clone();
            due[State.vectorPlace(link, block)] = 2;
            Check.sameState("setVector(" + link + ", " + block + ", 2)",
                    State.after(USED.andThen(t -> t.setVector(link, block, 2))), due);
        }
    }

    private static void setVectorRefuses() {
        TemporalLift t = new TemporalLift();
        for (int link : NO_LINKS) {
            Check.same("setVector of link " + link, t.setVector(link, 0, 0), -1);
            Check.same("setVector of link " + link + ", all wrong", t.setVector(link, -1, -1), -1);
        }
        for (int block : NO_BLOCKS) {
            Check.same("setVector of block " + block, t.setVector(0, block, 0), -2);
            Check.same("setVector of block " + block + ", step wrong", t.setVector(2, block, 25), -2);
        }
        for (int step : NO_STEPS) {
            Check.same("setVector to step " + step, t.setVector(0, 0, step), -3);
        }
        Check.changesNothing("a refused setVector", USED, u -> {
            for (int i = 0; i < 5; i++) {
                u.setVector(NO_LINKS[i], 1, 1);
                u.setVector(1, NO_BLOCKS[i], 1);
                u.setVector(1, 1, NO_STEPS[i]);
            }
        });
    }

    /** Each source has no two pixels alike near the block, so the one vector of cost 0 must be found. */
    private static void searchFindsAMovedFrame() {
        for (int step = 0; step < 25; step++) {
            int dx = step / 5 - 2;
            int dy = step % 5 - 2;
            TemporalLift t = new TemporalLift();
            t.ramp(0, 3, 29, 0);
            t.drift(1, -dx, -dy);
            t.drift(2, dx, dy);
            t.drift(3, -dx, -dy);
            t.search();
            // From this block the vector does not lead out of the frame.
            int block = (dx < 0 ? 1 : 0) + (dy < 0 ? 2 : 0);
            for (int link = 0; link < 3; link++) {
                Check.same("link " + link + " moved by step " + step, t.vector(link, block), step);
                Check.same("its cost", t.cost(link, block, step), 0);
            }
        }
    }

    private static void searchPrefersLeastCost() {
        TemporalLift t = new TemporalLift();
        t.put(0, 3, 3, 100);
        t.put(1, 1, 1, 100);
        t.put(0, 1, 1, 98);
        t.search();
        Check.same("a far vector of cost 0 against a near one of cost 102", t.vector(0, 0), step(2, 2));
        Check.same("cost of (2, 2)", t.cost(0, 0, step(2, 2)), 0);
        Check.same("cost of (0, 0)", t.cost(0, 0, step(0, 0)), 102);
    }

    private static void searchStaysWhereAllCostTheSame() {
        TemporalLift flat = new TemporalLift();
        flat.ramp(1, 0, 0, 9);
        Scenes.countedVectors(flat, 0);
        Check.same("search() where all cost the same", flat.search(), 8 * 16 * 9);
        for (int i = 0; i < 12; i++) {
            Check.same("all cost the same: vector " + i, flat.vector(i / 4, i % 4), 12);
        }
    }

    private static void searchTakesTheLeastSum() {
        tie("the least sum goes before the least dx", new int[] {3, 0},
                new int[][] {{-1, 0}, {-2, 0}, {-2, -2}, {0, 1}}, step(-1, 0));
        tie("the least sum goes before the least dy", new int[] {0, 0},
                new int[][] {{1, 0}, {1, -1}, {2, -2}, {0, 1}}, step(1, 0));
    }

    private static void searchTakesTheLeastDy() {
        tie("the least dy goes before the least dx", new int[] {7, 7},
                new int[][] {{0, -1}, {-1, 0}, {-2, 0}, {-1, -1}}, step(0, -1));
    }

    /** Frame 0 has one pixel at place; each vector of free costs nothing then, and (0, 0) does. */
    private static void tie(String name, int[] place, int[][] free, int due) {
        TemporalLift t = new TemporalLift();
        t.put(0, place[0], place[1], 200);
        int block = place[0] / 4 + 2 * (place[1] / 4);
        for (int[] v : free) {
            Check.same(name + ": cost of (" + v[0] + ", " + v[1] + ")", t.cost(0, block, step(v[0], v[1])), 0);
        }
        Check.holds(name + ": (0, 0) costs", t.cost(0, block, 12) > 0);
        Check.same(name + ": search()", t.search(), 0);
        Check.same(name, t.vector(0, block), due);
    }

    /** Half of the block comes from the left and half from the right, in columns that alternate. */
    private static void searchTakesTheLeastDx() {
        TemporalLift t = new TemporalLift();
        t.ramp(0, 133, 0, 0);
        t.drift(1, 1, 0);
        int[] fromTheRight = {133, 10, 143, 20};
        for (int x = 0; x < 4; x++) {
            t.put(1, x, 2, fromTheRight[x]);
            t.put(1, x, 3, fromTheRight[x]);
        }
        for (int step = 0; step < 25; step++) {
            int dx = step / 5 - 2;
            int cost = t.cost(0, 0, step);
            Check.holds("step " + step + " costs " + cost, dx == -1 || dx == 1 ? cost == 326 : cost > 326);
        }
        t.search();
        Check.same("the least dx among the same dy", t.vector(0, 0), step(-1, 0));
    }

    /** For every two vectors, every block and every link: a scene in which these two cost nothing. */
    private static void searchSettlesTheTieOfEveryTwo() {
        for (int pair = 0; pair < 25 * 25; pair++) {
            int one = pair / 25;
            int two = pair % 25;
            for (int place = 0; place < 12 && one < two; place++) {
                settles(place / 4, place % 4, one, two);
            }
        }
    }

    private static void settles(int link, int block, int one, int two) {
        int[] source = sourceOfBoth(block, one, two);
        TemporalLift t = new TemporalLift();
        for (int i = 0; i < 64; i++) {
            t.put(SOURCE[link], i % 8, i / 8, source[i]);
        }
        for (int i = 0; i < 16; i++) {
            t.put(PREDICTED[link], 4 * (block % 2) + i % 4, 4 * (block / 2) + i / 4, source[target(block, i, one)]);
        }
        int due = -1;
        for (int step = 0; step < 25; step++) {
            if (t.cost(link, block, step) == 0) {
                due = due < 0 || goesBefore(step, due) ? step : due;
            }
        }
        String name = "steps " + one + " and " + two + " for block " + block + " of link " + link;
        Check.same(name + ", cost of the one", t.cost(link, block, one), 0);
        Check.same(name + ", cost of the other", t.cost(link, block, two), 0);
        t.search();
        Check.same(name, t.vector(link, block), due);
    }

    /** Among vectors of the same cost, as promise 10 orders them. */
    private static boolean goesBefore(int step, int other) {
        int dx = step / 5 - 2;
        int dy = step % 5 - 2;
        int otherX = other / 5 - 2;
        int otherY = other % 5 - 2;
        int length = Math.abs(dx) + Math.abs(dy);
        int otherLength = Math.abs(otherX) + Math.abs(otherY);
        if (length != otherLength) {
            return length < otherLength;
        }
        return dy != otherY ? dy < otherY : dx < otherX;
    }

    /** The pixel, by number in its frame, to which the step leads from the block's i-th. */
    private static int target(int block, int i, int step) {
        int x = 4 * (block % 2) + i % 4 + step / 5 - 2;
        int y = 4 * (block / 2) + i / 4 + step % 5 - 2;
        return 8 * Math.max(0, Math.min(7, y)) + Math.max(0, Math.min(7, x));
    }

    /** Pixels that differ as far as they can where both steps are to lead to the same ones. */
    private static int[] sourceOfBoth(int block, int one, int two) {
        int[] pixels = new int[64];
        for (int i = 0; i < 64; i++) {
            pixels[i] = 4 * i;
        }
        for (int i = 0; i < 16; i++) {
            int first = pixels[target(block, i, one)];
            int second = pixels[target(block, i, two)];
            for (int k = 0; k < 64; k++) {
                pixels[k] = pixels[k] == second ? first : pixels[k];
            }
        }
        return pixels;
    }

    private static void searchSumsTwelveCosts() {
        TemporalLift t = new TemporalLift();
        t.ramp(0, 0, 0, 1);
        t.ramp(1, 0, 0, 4);
        t.ramp(2, 0, 0, 14);
        t.ramp(3, 0, 0, 114);
        Check.same("search() of flat frames", t.search(), 64 * (3 + 10 + 100));
        t.ramp(1, 0, 0, 255);
        t.ramp(0, 0, 0, 0);
        t.ramp(2, 0, 0, 0);
        t.ramp(3, 0, 0, 255);
        Check.same("the greatest search()", t.search(), 3 * 64 * 255);

        TemporalLift u = new TemporalLift();
        Scenes.everythingInUse(u);
        int answer = u.search();
        int sum = 0;
        for (int i = 0; i < 12; i++) {
            sum += u.cost(i / 4, i % 4, u.vector(i / 4, i % 4));
        }
        Check.same("search() is the sum of the chosen costs", answer, sum);
    }

    private static void searchChangesOnlyWorkingVectors() {
        int[] got = State.after(USED.andThen(t -> t.search()));
        int[] due = State.after(USED);
        boolean moved = false;
        for (int i = 256; i < State.GROUP; i++) {
            moved |= got[i] != due[i];
            due[i] = got[i];
        }
        Check.sameState("search() changes working vectors alone", got, due);
        Check.holds("search() replaces vectors that were set", moved);
    }

    private static void vectorAnswers() {
        TemporalLift t = new TemporalLift();
        for (int first = 0; first < 25; first += 12) {
            Scenes.countedVectors(t, first);
            for (int i = 0; i < 12; i++) {
                Check.same("vector(" + i / 4 + ", " + i % 4 + ")", t.vector(i / 4, i % 4), (first + i) % 25);
            }
        }
        Check.changesNothing("vector", USED, u -> u.vector(1, 2));
    }

    private static void vectorRefuses() {
        TemporalLift t = new TemporalLift();
        for (int link : NO_LINKS) {
            Check.same("vector of link " + link, t.vector(link, 0), -1);
            Check.same("vector of link " + link + ", block wrong", t.vector(link, 4), -1);
        }
        for (int block : NO_BLOCKS) {
            Check.same("vector of block " + block, t.vector(0, block), -2);
            Check.same("vector of link 2, block " + block, t.vector(2, block), -2);
        }
        Check.changesNothing("a refused vector", USED, u -> {
            u.vector(3, 0);
            u.vector(0, 4);
        });
    }
}
