import java.util.Arrays;

/**
 * The same beam by another way than the class takes: stiffness of unit pieces, a sag and a steepness
 * unknown at each place (two of these at a hinge), solved by elimination with fractions without bounds.
 */
final class Frame {
    final int length;
    final Ratio[] sag;
    final Ratio[] moment;
    final Ratio[] shear;
    final Ratio[] reaction;
    final int[] q;

    Frame(int length, int[] places, boolean[] hinges, int[] points, int[] q) {
        this.length = length;
        this.q = q.clone();
        int n = length + 1;
        boolean[] held = new boolean[n];
        boolean[] parted = new boolean[n];
        for (int k = 0; k < places.length; k++) {
            held[places[k]] = true;
            parted[places[k]] = hinges[k] && k > 0 && k < places.length - 1;
        }
        // numbers of the unknowns: sag, steepness to the left, steepness to the right
        int[][] unknown = new int[n][3];
        int size = 0;
        for (int k = 0; k < n; k++) {
            unknown[k][0] = size++;
            unknown[k][1] = size++;
            unknown[k][2] = parted[k] ? size++ : unknown[k][1];
        }
        Ratio[][] rows = new Ratio[size][size + 1];
        for (Ratio[] row : rows) {
            Arrays.fill(row, Ratio.ZERO);
        }
        for (int k = 0; k < length; k++) {
            int[] at = {unknown[k][0], unknown[k][2], unknown[k + 1][0], unknown[k + 1][1]};
            for (int i = 0; i < 4; i++) {
                for (int j = 0; j < 4; j++) {
                    rows[at[i]][at[j]] = rows[at[i]][at[j]].plus(Ratio.of(STIFF[i][j]));
                }
                rows[at[i]][size] = rows[at[i]][size].plus(spreadAt(i, q[k]));
            }
        }
        for (int k = 0; k < n; k++) {
            int w = unknown[k][0];
            rows[w][size] = rows[w][size].plus(Ratio.of(points[k]));
            if (held[k]) {
                Arrays.fill(rows[w], Ratio.ZERO);
                rows[w][w] = Ratio.of(1);
            }
        }
        Ratio[] found = eliminate(rows, size);
        sag = new Ratio[n];
        moment = new Ratio[n];
        shear = new Ratio[n];
        Ratio[] push = new Ratio[n];
        Arrays.fill(push, Ratio.ZERO);
        for (int k = 0; k < n; k++) {
            sag[k] = found[unknown[k][0]];
            moment[k] = Ratio.ZERO;
            shear[k] = Ratio.ZERO;
        }
        for (int k = 0; k < length; k++) {
            int[] at = {unknown[k][0], unknown[k][2], unknown[k + 1][0], unknown[k + 1][1]};
            Ratio[] force = new Ratio[4];
            for (int i = 0; i < 4; i++) {
                force[i] = spreadAt(i, q[k]).negated();
                for (int j = 0; j < 4; j++) {
                    force[i] = force[i].plus(found[at[j]].times(STIFF[i][j]));
                }
            }
            shear[k] = force[0].negated();
            moment[k] = force[1];
            moment[k + 1] = force[3].negated();
            push[k] = push[k].plus(force[0]);
            push[k + 1] = push[k + 1].plus(force[2]);
        }
        reaction = new Ratio[places.length];
        for (int k = 0; k < places.length; k++) {
            reaction[k] = Ratio.of(points[places[k]]).minus(push[places[k]]);
        }
    }

    private static final int[][] STIFF = {{12, 6, -12, 6}, {6, 4, -6, 2}, {-12, -6, 12, -6}, {6, 2, -6, 4}};

    private static Ratio spreadAt(int i, int q) {
        return i % 2 == 0 ? Ratio.of(q, 2) : Ratio.of(i == 1 ? q : -q, 12);
    }

    private static Ratio[] eliminate(Ratio[][] rows, int size) {
        for (int c = 0; c < size; c++) {
            int pick = c;
            while (rows[pick][c].sign() == 0) {
                pick++;
            }
            Ratio[] swap = rows[c];
            rows[c] = rows[pick];
            rows[pick] = swap;
            for (int r = c + 1; r < size; r++) {
                if (rows[r][c].sign() == 0) {
                    continue;
                }
                Ratio f = rows[r][c].over(rows[c][c]);
                for (int j = c; j <= size; j++) {
                    if (rows[c][j].sign() != 0) {
                        rows[r][j] = rows[r][j].minus(f.times(rows[c][j]));
                    }
                }
            }
        }
        Ratio[] found = new Ratio[size];
        for (int c = size - 1; c >= 0; c--) {
            Ratio sum = rows[c][size];
            for (int j = c + 1; j < size; j++) {
                if (rows[c][j].sign() != 0) {
                    sum = sum.minus(rows[c][j].times(found[j]));
                }
            }
            found[c] = sum.over(rows[c][c]);
        }
        return found;
    }

    Ratio momentAt(int a, int b) {
        int k = Math.min(a / b, length - 1);
        Ratio u = Ratio.of(a, b).minus(Ratio.of(k));
        return moment[k].plus(shear[k].times(u)).minus(u.times(u).times(Ratio.of(q[k], 2)));
    }

    /** How much and where: the greatest (way 1) or the least (way -1). */
    Ratio[] peak(int way) {
        Ratio much = null;
        Ratio where = null;
        for (int k = 0; k <= length; k++) {
            if (much == null || way * moment[k].compareTo(much) > 0) {
                much = moment[k];
                where = Ratio.of(k);
            }
            if (k == length || q[k] == 0) {
                continue;
            }
            Ratio u = shear[k].over(Ratio.of(q[k]));
            if (u.sign() > 0 && u.compareTo(Ratio.of(1)) < 0) {
                Ratio there = moment[k].plus(shear[k].times(u).times(Ratio.of(1, 2)));
                if (way * there.compareTo(much) > 0) {
                    much = there;
                    where = u.plus(Ratio.of(k));
                }
            }
        }
        return new Ratio[] {much, where};
    }

    Ratio span() {
        Ratio top = peak(1)[0];
        Ratio bottom = peak(-1)[0].negated();
        return top.compareTo(bottom) > 0 ? top : bottom;
    }
}
