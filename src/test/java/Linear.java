import java.util.List;

/** The most that a goal comes to under rows "sum of row times x is at most its last", x not below 0. */
final class Linear {
    private Linear() { }

    static Fraction[] most(List<Fraction[]> rows, Fraction[] goal) {
        int vars = goal.length;
        int m = rows.size();
        // a full table with a column for each row's spare, unlike the class under test
        Fraction[][] t = new Fraction[m + 1][vars + m + 1];
        int[] basic = new int[m];
        for (int r = 0; r <= m; r++) {
            for (int c = 0; c < vars; c++) {
                t[r][c] = r < m ? rows.get(r)[c] : Fraction.ZERO.minus(goal[c]);
            }
            for (int c = vars; c < vars + m; c++) {
                t[r][c] = Fraction.of(c - vars == r ? 1 : 0);
            }
            t[r][vars + m] = r < m ? rows.get(r)[vars] : Fraction.ZERO;
            if (r < m) basic[r] = vars + r;
        }
        while (true) {
            int enter = 0;
            while (enter < vars + m && t[m][enter].sign() >= 0) enter++;
            if (enter == vars + m) break;
            int leave = -1;
            for (int r = 0; r < m; r++) {
                if (t[r][enter].sign() <= 0) continue;
                if (leave < 0) {
                    leave = r;
                    continue;
                }
                int order = t[r][vars + m].over(t[r][enter]).compareTo(t[leave][vars + m].over(t[leave][enter]));
                if (order < 0 || (order == 0 && basic[r] < basic[leave])) leave = r;
            }
            if (leave < 0) throw new IllegalStateException("no most");
            turn(t, leave, enter);
            basic[leave] = enter;
        }
        Fraction[] x = new Fraction[vars];
        java.util.Arrays.fill(x, Fraction.ZERO);
        for (int r = 0; r < m; r++) {
            if (basic[r] < vars) x[basic[r]] = t[r][vars + m];
        }
        return x;
    }

    private static void turn(Fraction[][] t, int leave, int enter) {
        Fraction by = t[leave][enter];
        for (int c = 0; c < t[leave].length; c++) {
            if (t[leave][c].sign() != 0) t[leave][c] = t[leave][c].over(by);
        }
        for (int r = 0; r < t.length; r++) {
            Fraction factor = t[r][enter];
            if (r == leave || factor.sign() == 0) continue;
            for (int c = 0; c < t[r].length; c++) {
                if (t[leave][c].sign() != 0) t[r][c] = t[r][c].minus(factor.times(t[leave][c]));
            }
        }
    }
}
