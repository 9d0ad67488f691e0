import java.util.ArrayList;
import java.util.Arrays;
import java.util.List;

/** A linear program over numbers 0 or more, solved exactly by the two-phase simplex method with Bland's rule. */
final class Program {
    private final int variables;
    private final List<Ratio[]> rows = new ArrayList<>();
    private final List<Integer> signs = new ArrayList<>();
    private Ratio[][] table;
    private int[] basis;
    private int columns;
    boolean isFeasible;
    boolean isBounded;
    Ratio value;

    Program(int variables) {
        this.variables = variables;
    }

    /** A row: the factors, then the right side; sign -1: at most, 0: just, 1: at least. */
    void row(int sign, Ratio... factors) {
        rows.add(factors.clone());
        signs.add(sign);
    }

    /** Makes the sum of the goal's factors times the variables as small as may be. */
    void least(Ratio... goal) {
        int count = rows.size();
        columns = variables + 2 * count;
        table = new Ratio[count][columns + 1];
        basis = new int[count];
        for (int r = 0; r < count; r++) {
            Arrays.fill(table[r], Ratio.ZERO);
            System.arraycopy(rows.get(r), 0, table[r], 0, variables);
            table[r][variables + r] = Ratio.of(-signs.get(r));
            table[r][columns] = rows.get(r)[variables];
            if (table[r][columns].sign() < 0) {
                for (int c = 0; c <= columns; c++) {
                    table[r][c] = table[r][c].times(Ratio.of(-1));
                }
            }
            table[r][variables + count + r] = Ratio.ONE;
            basis[r] = variables + count + r;
        }
        Ratio[] first = new Ratio[columns];
        Arrays.fill(first, Ratio.ZERO);
        Arrays.fill(first, variables + count, columns, Ratio.ONE);
        run(first, columns);
        isFeasible = value.sign() == 0;
        if (isFeasible) {
            driveOut(variables + count);
            Ratio[] second = new Ratio[columns];
            Arrays.fill(second, Ratio.ZERO);
            System.arraycopy(goal, 0, second, 0, variables);
            run(second, variables + count);
        }
    }

    private void driveOut(int end) {
        for (int r = 0; r < basis.length; r++) {
            for (int c = 0; basis[r] >= end && c < end; c++) {
                if (table[r][c].sign() != 0) {
                    pivot(r, c);
                }
            }
        }
    }

    private void run(Ratio[] goal, int end) {
        isBounded = true;
        while (true) {
            int enter = -1;
            for (int c = 0; c < end && enter < 0; c++) {
                Ratio reduced = goal[c];
                for (int r = 0; r < basis.length; r++) {
                    reduced = reduced.minus(goal[basis[r]].times(table[r][c]));
                }
                if (reduced.sign() < 0) {
                    enter = c;
                }
            }
            if (enter < 0) {
                break;
            }
            int leave = -1;
            for (int r = 0; r < basis.length; r++) {
                if (table[r][enter].sign() > 0) {
                    int order = leave < 0 ? -1
                        : table[r][columns].by(table[r][enter]).compareTo(table[leave][columns].by(table[leave][enter]));
                    if (order < 0 || order == 0 && basis[r] < basis[leave]) {
                        leave = r;
                    }
                }
            }
            if (leave < 0) {
                isBounded = false;
                return;
            }
            pivot(leave, enter);
        }
        value = Ratio.ZERO;
        for (int r = 0; r < basis.length; r++) {
            value = value.plus(goal[basis[r]].times(table[r][columns]));
        }
    }

    private void pivot(int row, int column) {
        Ratio by = table[row][column];
        for (int c = 0; c <= columns; c++) {
            table[row][c] = table[row][c].by(by);
        }
        for (int r = 0; r < basis.length; r++) {
            Ratio factor = table[r][column];
            for (int c = 0; r != row && factor.sign() != 0 && c <= columns; c++) {
                if (table[row][c].sign() != 0) {
                    table[r][c] = table[r][c].minus(factor.times(table[row][c]));
                }
            }
        }
        basis[row] = column;
    }
}
