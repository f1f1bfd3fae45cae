/**
 * A lossless coder for groups of four small grey frames, with motion vectors.
 *
 * <p>Four frames lie one after the other in one array, row by row. A vector is held as its step,
 * 5 * (dx + 2) + (dy + 2), because that is how callers give it and are told it.
 */
public final class TemporalLift {
    private static final int SIDE = 8;
    private static final int FRAME_PIXELS = 64;
    private static final int FRAMES = 4;
    private static final int GROUP_PIXELS = 256;

    private static final int LINKS = 3;
    private static final int BLOCKS = 4;
    private static final int BLOCK_SIDE = 4;
    private static final int GROUP_VECTORS = 12;

    private static final int REACH = 2;
    private static final int STEP_BASE = 5;
    private static final int STEPS = 25;
    private static final int STILL = 12;

    private static final int SLOTS = 2;
    private static final int SLOT_PIXELS = 512;
    private static final int SLOT_VECTORS = 24;

    private static final int FARTHEST_DRIFT = 8;
    private static final int INVERTED_SIDE = 3;
    private static final int WHITE = 255;

    private final int[] workPixels = new int[GROUP_PIXELS];
    private final int[] workSteps = new int[GROUP_VECTORS];
    private final int[] outPixels = new int[GROUP_PIXELS];
    private final int[] outSteps = new int[GROUP_VECTORS];
    private final int[] codedPixels = new int[SLOT_PIXELS];
    private final int[] codedSteps = new int[SLOT_VECTORS];
    private final boolean[] occupied = new boolean[SLOTS];

    public TemporalLift() {
        for (int i = 0; i < GROUP_VECTORS; i++) {
            workSteps[i] = STILL;
            outSteps[i] = STILL;
        }
    }

    public int put(int f, int x, int y, int value) {
        if (!isFrame(f)) {
            return -1;
        }
        if (!isPosition(x, y)) {
            return -2;
        }
        int place = placeOf(f, x, y);
        int before = workPixels[place];
        workPixels[place] = value & WHITE;
        return before;
    }

    public int ramp(int f, int a, int b, int c) {
        if (!isFrame(f)) {
            return -1;
        }
        for (int y = 0; y < SIDE; y++) {
            for (int x = 0; x < SIDE; x++) {
                int place = placeOf(f, x, y);
                workPixels[place] = (a * x + b * y + c) & WHITE;
            }
        }
        return lastPixelOf(f);
    }

    public int drift(int f, int dx, int dy) {
        if (f < 1 || f >= FRAMES) {
            return -1;
        }
        if (!isDrift(dx) || !isDrift(dy)) {
            return -2;
        }
        for (int y = 0; y < SIDE; y++) {
            for (int x = 0; x < SIDE; x++) {
                int place = placeOf(f, x, y);
                workPixels[place] = nearest(workPixels, f - 1, x - dx, y - dy);
            }
        }
        return workPixels[f * FRAME_PIXELS];
    }

    public int roughen(int f, int seed) {
        if (!isFrame(f)) {
            return -1;
        }
        for (int i = 0; i < FRAME_PIXELS; i++) {
            int place = f * FRAME_PIXELS + i;
            int grain = (seed * (i + 1)) & 15;
            workPixels[place] = (workPixels[place] + grain) & WHITE;
        }
        return lastPixelOf(f);
    }

    public int invert(int f, int x0, int y0) {
        if (!isFrame(f)) {
            return -1;
        }
        if (!isPosition(x0, y0)) {
            return -2;
        }
        int changed = 0;
        for (int y = y0; y < y0 + INVERTED_SIDE && y < SIDE; y++) {
            for (int x = x0; x < x0 + INVERTED_SIDE && x < SIDE; x++) {
                int place = placeOf(f, x, y);
                workPixels[place] = WHITE - workPixels[place];
                changed++;
            }
        }
        return changed;
    }

    public int pixel(int f, int x, int y) {
        return pixelOrRefusal(workPixels, f, x, y);
    }

    public int cost(int link, int block, int step) {
        int refusal = vectorRefusal(link, block, step);
        if (refusal != 0) {
            return refusal;
        }
        return costOf(link, block, step);
    }

    public int setVector(int link, int block, int step) {
        int refusal = vectorRefusal(link, block, step);
        if (refusal != 0) {
            return refusal;
        }
        int place = link * BLOCKS + block;
        int before = workSteps[place];
        workSteps[place] = step;
        return before;
    }

    public int search() {
        int total = 0;
        for (int link = 0; link < LINKS; link++) {
            for (int block = 0; block < BLOCKS; block++) {
                int best = bestStep(link, block);
                workSteps[link * BLOCKS + block] = best;
                total += costOf(link, block, best);
            }
        }
        return total;
    }

    public int vector(int link, int block) {
        return stepOrRefusal(workSteps, link, block);
    }

    public int encode(int slot) {
        if (!isSlot(slot)) {
            return -1;
        }
        for (int i = 0; i < GROUP_VECTORS; i++) {
            codedSteps[slot * GROUP_VECTORS + i] = workSteps[i];
        }
        for (int f = 0; f < FRAMES; f++) {
            encodeFrame(slot, f);
        }
        occupied[slot] = true;
        return 0;
    }

    public int decode(int slot) {
        if (!isSlot(slot)) {
            return -1;
        }
        if (!occupied[slot]) {
            return -2;
        }
        for (int i = 0; i < GROUP_VECTORS; i++) {
            outSteps[i] = codedSteps[slot * GROUP_VECTORS + i];
        }
        // Frames 1 and 3 are predicted from 0 and 2, so these must stand first.
        decodeFrame(slot, 0);
        decodeFrame(slot, 2);
        decodeFrame(slot, 1);
        decodeFrame(slot, 3);
        int sum = 0;
        for (int i = 0; i < GROUP_PIXELS; i++) {
            sum += outPixels[i];
        }
        return sum;
    }

    public int erase(int slot) {
        if (!isSlot(slot)) {
            return -1;
        }
        int before = occupied[slot] ? 1 : 0;
        occupied[slot] = false;
        return before;
    }

    public int copySlot(int slot) {
        if (!isSlot(slot)) {
            return -1;
        }
        int other = 1 - slot;
        for (int i = 0; i < GROUP_PIXELS; i++) {
            codedPixels[other * GROUP_PIXELS + i] = codedPixels[slot * GROUP_PIXELS + i];
        }
        for (int i = 0; i < GROUP_VECTORS; i++) {
            codedSteps[other * GROUP_VECTORS + i] = codedSteps[slot * GROUP_VECTORS + i];
        }
        occupied[other] = occupied[slot];
        return 0;
    }

    public int filled(int slot) {
        if (!isSlot(slot)) {
            return -1;
        }
        return occupied[slot] ? 1 : 0;
    }

    public int out(int f, int x, int y) {
        return pixelOrRefusal(outPixels, f, x, y);
    }

    public int outVector(int link, int block) {
        return stepOrRefusal(outSteps, link, block);
    }

    public void adopt() {
        for (int i = 0; i < GROUP_PIXELS; i++) {
            workPixels[i] = outPixels[i];
        }
        for (int i = 0; i < GROUP_VECTORS; i++) {
            workSteps[i] = outSteps[i];
        }
    }

    public int difference(int f) {
        if (!isFrame(f)) {
            return -1;
        }
        int sum = 0;
        for (int i = 0; i < FRAME_PIXELS; i++) {
            int place = f * FRAME_PIXELS + i;
            sum += size(outPixels[place] - workPixels[place]);
        }
        return sum;
    }

    private static boolean isFrame(int f) {
        return f >= 0 && f < FRAMES;
    }

    private static boolean isPosition(int x, int y) {
        return x >= 0 && x < SIDE && y >= 0 && y < SIDE;
    }

    private static boolean isDrift(int distance) {
        return distance >= -FARTHEST_DRIFT && distance <= FARTHEST_DRIFT;
    }

    private static boolean isSlot(int slot) {
        return slot >= 0 && slot < SLOTS;
    }

    /** 0 where link and block name a vector, otherwise the refusal that is due. */
    private static int blockRefusal(int link, int block) {
        if (link < 0 || link >= LINKS) {
            return -1;
        }
        if (block < 0 || block >= BLOCKS) {
            return -2;
        }
        return 0;
    }

    /** 0 where all three are in range, otherwise the refusal that is due. */
    private static int vectorRefusal(int link, int block, int step) {
        int refusal = blockRefusal(link, block);
        if (refusal != 0) {
            return refusal;
        }
        if (step < 0 || step >= STEPS) {
            return -3;
        }
        return 0;
    }

    private static int pixelOrRefusal(int[] pixels, int f, int x, int y) {
        if (!isFrame(f)) {
            return -1;
        }
        if (!isPosition(x, y)) {
            return -2;
        }
        int place = placeOf(f, x, y);
        return pixels[place];
    }

    private static int stepOrRefusal(int[] steps, int link, int block) {
        int refusal = blockRefusal(link, block);
        if (refusal != 0) {
            return refusal;
        }
        return steps[link * BLOCKS + block];
    }

    private static int placeOf(int f, int x, int y) {
        return f * FRAME_PIXELS + y * SIDE + x;
    }

    private int lastPixelOf(int f) {
        return workPixels[f * FRAME_PIXELS + FRAME_PIXELS - 1];
    }

    /** The pixel AT (x, y) in the document's sense: outside the frame, the nearest one counts. */
    private static int nearest(int[] pixels, int f, int x, int y) {
        int column = within(x);
        int row = within(y);
        int place = placeOf(f, column, row);
        return pixels[place];
    }

    private static int within(int coordinate) {
        if (coordinate < 0) {
            return 0;
        }
        return coordinate < SIDE ? coordinate : SIDE - 1;
    }

    private static int size(int number) {
        return number < 0 ? -number : number;
    }

    private static int predictedFrame(int link) {
        return link == 2 ? 3 : 1;
    }

    private static int sourceFrame(int link) {
        return link == 0 ? 0 : 2;
    }

    private static int stepX(int step) {
        return step / STEP_BASE - REACH;
    }

    private static int stepY(int step) {
        return step % STEP_BASE - REACH;
    }

    private int costOf(int link, int block, int step) {
        int predicted = predictedFrame(link);
        int source = sourceFrame(link);
        int dx = stepX(step);
        int dy = stepY(step);
        int left = BLOCK_SIDE * (block % 2);
        int top = BLOCK_SIDE * (block / 2);
        int sum = 0;
        for (int y = top; y < top + BLOCK_SIDE; y++) {
            for (int x = left; x < left + BLOCK_SIDE; x++) {
                int place = placeOf(predicted, x, y);
                int seen = nearest(workPixels, source, x + dx, y + dy);
                sum += size(workPixels[place] - seen);
            }
        }
        return sum;
    }

    private int bestStep(int link, int block) {
        int best = STILL;
        int bestCost = costOf(link, block, STILL);
        int bestLength = 0;
        // The order of the loops, dy first, settles the ties that cost and length leave.
        for (int dy = -REACH; dy <= REACH; dy++) {
            for (int dx = -REACH; dx <= REACH; dx++) {
                int step = STEP_BASE * (dx + REACH) + dy + REACH;
                int stepCost = costOf(link, block, step);
                int length = size(dx) + size(dy);
                if (stepCost < bestCost || (stepCost == bestCost && length < bestLength)) {
                    best = step;
                    bestCost = stepCost;
                    bestLength = length;
                }
            }
        }
        return best;
    }

    /** A slot keeps of each pixel what its prediction misses, modulo 256 so that it stays a byte. */
    private void encodeFrame(int slot, int f) {
        for (int y = 0; y < SIDE; y++) {
            for (int x = 0; x < SIDE; x++) {
                int place = placeOf(f, x, y);
                int guess = prediction(workPixels, workSteps, f, x, y);
                codedPixels[slot * GROUP_PIXELS + place] = (workPixels[place] - guess) & WHITE;
            }
        }
    }

    private void decodeFrame(int slot, int f) {
        for (int y = 0; y < SIDE; y++) {
            for (int x = 0; x < SIDE; x++) {
                int place = placeOf(f, x, y);
                int guess = prediction(outPixels, outSteps, f, x, y);
                outPixels[place] = (codedPixels[slot * GROUP_PIXELS + place] + guess) & WHITE;
            }
        }
    }

    /** Looks at frames 0 and 2 alone, so that a decoder that has these two guesses the same. */
    private static int prediction(int[] pixels, int[] steps, int f, int x, int y) {
        if (f == 1) {
            int first = linkedPixel(pixels, steps, 0, x, y);
            int second = linkedPixel(pixels, steps, 1, x, y);
            return (first + second) / 2;
        }
        if (f == 3) {
            return linkedPixel(pixels, steps, 2, x, y);
        }
        return 0;
    }

    private static int linkedPixel(int[] pixels, int[] steps, int link, int x, int y) {
        int block = 2 * (y / BLOCK_SIDE) + x / BLOCK_SIDE;
        int step = steps[link * BLOCKS + block];
        int source = sourceFrame(link);
        int dx = stepX(step);
        int dy = stepY(step);
        return nearest(pixels, source, x + dx, y + dy);
    }
}
