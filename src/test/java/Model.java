/**
 * The document once more, word by word and without any coding: a slot is a copy of what was coded.
 *
 * <p>It shares no code with the class, so that the two are not likely to be wrong in the same way.
 */
final class Model {
    private static final int[][] LINK_FRAMES = {{1, 0}, {1, 2}, {3, 2}};

    /** Four frames, by frame, column and row, and the vectors (dx, dy) by link and block. */
    private static final class Group {
        final int[][][] pixels = new int[4][8][8];
        final int[][][] vectors = new int[3][4][2];

        Group copy() {
            Group other = new Group();
            for (int i = 0; i < 256; i++) {
                other.pixels[i / 64][i / 8 % 8][i % 8] = pixels[i / 64][i / 8 % 8][i % 8];
            }
            for (int i = 0; i < 24; i++) {
                other.vectors[i / 8][i / 2 % 4][i % 2] = vectors[i / 8][i / 2 % 4][i % 2];
            }
            return other;
        }

        int at(int f, int x, int y) {
            return pixels[f][Math.max(0, Math.min(7, x))][Math.max(0, Math.min(7, y))];
        }

        int stepOf(int link, int block) {
            int[] v = vectors[link][block];
            return 5 * (v[0] + 2) + (v[1] + 2);
        }
    }

    private Group work = new Group();
    private Group output = new Group();
    private final Group[] slots = new Group[2];

    private static boolean outside(int n, int least, int most) {
        return n < least || n > most;
    }

    int put(int f, int x, int y, int value) {
        int before = pixel(f, x, y);
        if (before >= 0) {
            work.pixels[f][x][y] = Math.floorMod(value, 256);
        }
        return before;
    }

    int ramp(int f, int a, int b, int c) {
        if (outside(f, 0, 3)) {
            return -1;
        }
        for (int x = 0; x < 8; x++) {
            for (int y = 0; y < 8; y++) {
                work.pixels[f][x][y] = (int) Math.floorMod((long) a * x + (long) b * y + c, 256L);
            }
        }
        return work.pixels[f][7][7];
    }

    int drift(int f, int dx, int dy) {
        if (outside(f, 1, 3)) {
            return -1;
        }
        if (outside(dx, -8, 8) || outside(dy, -8, 8)) {
            return -2;
        }
        for (int x = 0; x < 8; x++) {
            for (int y = 0; y < 8; y++) {
                work.pixels[f][x][y] = work.at(f - 1, x - dx, y - dy);
            }
        }
        return work.pixels[f][0][0];
    }

    int roughen(int f, int seed) {
        if (outside(f, 0, 3)) {
            return -1;
        }
        for (int x = 0; x < 8; x++) {
            for (int y = 0; y < 8; y++) {
                long grain = Math.floorMod((long) seed * (8 * y + x + 1), 16L);
                work.pixels[f][x][y] = (int) ((work.pixels[f][x][y] + grain) % 256);
            }
        }
        return work.pixels[f][7][7];
    }

    int invert(int f, int x0, int y0) {
        if (outside(f, 0, 3)) {
            return -1;
        }
        if (outside(x0, 0, 7) || outside(y0, 0, 7)) {
            return -2;
        }
        int changed = 0;
        for (int x = 0; x < 8; x++) {
            for (int y = 0; y < 8; y++) {
                if (x0 <= x && x <= x0 + 2 && y0 <= y && y <= y0 + 2) {
                    work.pixels[f][x][y] = 255 - work.pixels[f][x][y];
                    changed++;
                }
            }
        }
        return changed;
    }

    int pixel(int f, int x, int y) {
        return pixelOf(work, f, x, y);
    }

    int out(int f, int x, int y) {
        return pixelOf(output, f, x, y);
    }

    private static int pixelOf(Group group, int f, int x, int y) {
        if (outside(f, 0, 3)) {
            return -1;
        }
        return outside(x, 0, 7) || outside(y, 0, 7) ? -2 : group.pixels[f][x][y];
    }

    int cost(int link, int block, int step) {
        if (outside(link, 0, 2)) {
            return -1;
        }
        if (outside(block, 0, 3)) {
            return -2;
        }
        return outside(step, 0, 24) ? -3 : costOf(link, block, step / 5 - 2, step % 5 - 2);
    }

    private int costOf(int link, int block, int dx, int dy) {
        int sum = 0;
        for (int x = 0; x < 8; x++) {
            for (int y = 0; y < 8; y++) {
                if (x / 4 == block % 2 && y / 4 == block / 2) {
                    int predicted = work.pixels[LINK_FRAMES[link][0]][x][y];
                    sum += Math.abs(predicted - work.at(LINK_FRAMES[link][1], x + dx, y + dy));
                }
            }
        }
        return sum;
    }

    int setVector(int link, int block, int step) {
        int refusal = cost(link, block, step);
        if (refusal < 0) {
            return refusal;
        }
        int before = work.stepOf(link, block);
        work.vectors[link][block] = new int[] {step / 5 - 2, step % 5 - 2};
        return before;
    }

    int search() {
        int total = 0;
        for (int link = 0; link < 3; link++) {
            for (int block = 0; block < 4; block++) {
                long[] best = null;
                for (int step = 0; step < 25; step++) {
                    int dx = step / 5 - 2;
                    int dy = step % 5 - 2;
                    long[] rank = {costOf(link, block, dx, dy), Math.abs(dx) + Math.abs(dy), dy, dx};
                    if (best == null || java.util.Arrays.compare(rank, best) < 0) {
                        best = rank;
                    }
                }
                work.vectors[link][block] = new int[] {(int) best[3], (int) best[2]};
                total += (int) best[0];
            }
        }
        return total;
    }

    int vector(int link, int block) {
        return vectorOf(work, link, block);
    }

    int outVector(int link, int block) {
        return vectorOf(output, link, block);
    }

    private static int vectorOf(Group group, int link, int block) {
        if (outside(link, 0, 2)) {
            return -1;
        }
        return outside(block, 0, 3) ? -2 : group.stepOf(link, block);
    }

    int encode(int slot) {
        if (outside(slot, 0, 1)) {
            return -1;
        }
        slots[slot] = work.copy();
        return 0;
    }

    int decode(int slot) {
        if (outside(slot, 0, 1)) {
            return -1;
        }
        if (slots[slot] == null) {
            return -2;
        }
        output = slots[slot].copy();
        int sum = 0;
        for (int i = 0; i < 256; i++) {
            sum += output.pixels[i / 64][i / 8 % 8][i % 8];
        }
        return sum;
    }

    int erase(int slot) {
        int held = filled(slot);
        if (held == 1) {
            slots[slot] = null;
        }
        return held;
    }

    int copySlot(int slot) {
        if (outside(slot, 0, 1)) {
            return -1;
        }
        slots[1 - slot] = slots[slot] == null ? null : slots[slot].copy();
        return 0;
    }

    int filled(int slot) {
        if (outside(slot, 0, 1)) {
            return -1;
        }
        return slots[slot] == null ? 0 : 1;
    }

    void adopt() {
        work = output.copy();
    }

    int difference(int f) {
        if (outside(f, 0, 3)) {
            return -1;
        }
        int sum = 0;
        for (int i = 0; i < 64; i++) {
            sum += Math.abs(output.pixels[f][i / 8][i % 8] - work.pixels[f][i / 8][i % 8]);
        }
        return sum;
    }
}
