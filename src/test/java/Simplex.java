import java.math.BigInteger;
import java.util.List;

/** The least of a sum over all rows of amounts (0 at least) that keep some equations, in whole fractions. */
final class Simplex {
    static final class Fraction {
        final BigInteger above;
        final BigInteger below;

        Fraction(BigInteger a, BigInteger b) {
            BigInteger by = a.gcd(b);
            if (b.signum() < 0) {
                by = by.negate();
            }
            above = a.divide(by);
            below = b.divide(by);
        }

        static Fraction of(long v) {
            return new Fraction(BigInteger.valueOf(v), BigInteger.ONE);
        }

        int signum() {
            return above.signum();
        }

        Fraction less(Fraction o) {
            return new Fraction(above.multiply(o.below).subtract(o.above.multiply(below)), below.multiply(o.below));
        }

        Fraction times(Fraction o) {
            return new Fraction(above.multiply(o.above), below.multiply(o.below));
        }

        Fraction by(Fraction o) {
            return new Fraction(above.multiply(o.below), below.multiply(o.above));
        }
    }

    final Fraction[][] rows;
    final int amounts;
    final int[] basis;
    boolean endless;

    Simplex(List<long[]> told, int amounts) {
        this.amounts = amounts;
        int n = told.size();
        rows = new Fraction[n][amounts + n + 1];
        basis = new int[n];
        for (int r = 0; r < n; r++) {
            // A helper for each row begins with the row's right side, which is turned to be 0 at least.
            long sign = told.get(r)[amounts] < 0 ? -1 : 1;
            for (int c = 0; c < amounts; c++) {
                rows[r][c] = Fraction.of(sign * told.get(r)[c]);
            }
            for (int h = 0; h < n; h++) {
                rows[r][amounts + h] = Fraction.of(h == r ? 1 : 0);
            }
            rows[r][amounts + n] = Fraction.of(sign * told.get(r)[amounts]);
            basis[r] = amounts + r;
        }
    }

    private Fraction value(Fraction[] costs) {
        Fraction sum = Fraction.of(0);
        for (int r = 0; r < rows.length; r++) {
            sum = sum.less(costs[basis[r]].times(rows[r][rows[r].length - 1]).times(Fraction.of(-1)));
        }
        return sum;
    }

    private Fraction gain(Fraction[] costs, int column) {
        Fraction left = costs[column];
        for (int r = 0; r < rows.length; r++) {
            left = left.less(costs[basis[r]].times(rows[r][column]));
        }
        return left;
    }

    private void pivot(int row, int column) {
        Fraction lead = rows[row][column];
        for (int c = 0; c < rows[row].length; c++) {
            rows[row][c] = rows[row][c].by(lead);
        }
        for (int r = 0; r < rows.length; r++) {
            Fraction factor = rows[r][column];
            for (int c = 0; r != row && c < rows[r].length; c++) {
                rows[r][c] = rows[r][c].less(factor.times(rows[row][c]));
            }
        }
        basis[row] = column;
    }

    /** Bland's rule: the first column that helps, the first row of the tightest. */
    private boolean improve(Fraction[] costs, int columns) {
        for (int c = 0; c < columns; c++) {
            if (gain(costs, c).signum() < 0) {
                int best = -1;
                Fraction tightest = null;
                for (int r = 0; r < rows.length; r++) {
                    if (rows[r][c].signum() > 0) {
                        Fraction ratio = rows[r][rows[r].length - 1].by(rows[r][c]);
                        int sign = tightest == null ? -1 : ratio.less(tightest).signum();
                        if (sign < 0 || sign == 0 && basis[r] < basis[best]) {
                            best = r;
                            tightest = ratio;
                        }
                    }
                }
                if (best < 0) {
                    endless = true;
                    return false;
                }
                pivot(best, c);
                return true;
            }
        }
        return false;
    }

    /** null: nothing keeps the equations, or the least is endless. */
    Fraction least(long[] goals) {
        int all = amounts + rows.length;
        Fraction[] costs = new Fraction[all];
        for (int c = 0; c < all; c++) {
            costs[c] = Fraction.of(c < amounts ? 0 : 1);
        }
        while (improve(costs, all)) {
            continue;
        }
        if (value(costs).signum() > 0) {
            return null;
        }
        // Helpers that are left stand at 0: they leave the basis where they can, else their rows say nothing.
        for (int r = 0; r < rows.length; r++) {
            for (int c = 0; basis[r] >= amounts && c < amounts; c++) {
                if (rows[r][c].signum() != 0) {
                    pivot(r, c);
                }
            }
        }
        for (int c = 0; c < all; c++) {
            costs[c] = Fraction.of(c < amounts ? goals[c] : 0);
        }
        while (improve(costs, amounts)) {
            continue;
        }
        return endless ? null : value(costs);
    }
}
