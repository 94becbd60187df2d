/** Asks the class and the model the same, all that can be asked without an ACT. */
final class Compare {
    private Compare() {
    }

    static void all(String name, Fresh x, Model model) {
        labels(name, x, model);
        sets(name, x, model);
        lists(name, x, model);
    }

    private static void labels(String name, Fresh x, Model model) {
        for (int i = -1; i <= 10; i++) {
            Check.due(name + ": f(" + i + ")", x.get().f(i), model.f(i));
            Check.due(name + ": neck(" + i + ")", x.get().neck(i), model.neck(i));
            Check.due(name + ": part(" + i + ")", x.get().part(i), model.part(i));
            Check.due(name + ": count(" + i + ")", x.get().count(i), model.count(i));
            Check.due(name + ": has(" + i + ")", x.get().has(i), model.has(i));
            for (int j = -1; j <= 9; j++) {
                Check.due(name + ": box(" + i + ", " + j + ")", x.get().box(i, j), model.box(i, j));
            }
        }
    }

    private static void sets(String name, Fresh x, Model model) {
        int above = 1 << Math.max(2, x.get().count(0));
        for (int set = -1; set <= above; set++) {
            Check.due(name + ": ways(" + set + ")", x.get().ways(set), model.ways(set));
            Check.due(name + ": rank(" + set + ")", x.get().rank(set), model.rank(set));
        }
    }

    private static void lists(String name, Fresh x, Model model) {
        Check.due(name + ": bases", x.get().bases(), model.bases());
        for (int k = -2; k < 20; k++) {
            Check.due(name + ": basis(" + k + ")", x.get().basis(k), model.basis(k));
            Check.due(name + ": cluster(" + k + ")", x.get().cluster(k), model.cluster(k));
            Check.due(name + ": square(" + k + ")", x.get().square(k), model.square(k));
        }
        int nexts = Math.max(0, Math.max(x.get().lower(0, 0), x.get().upper(0, 0)));
        for (int k = -1; k <= nexts; k++) {
            for (int i = -1; i <= 9; i++) {
                Check.due(name + ": lower(" + k + ", " + i + ")", x.get().lower(k, i), model.lower(k, i));
                Check.due(name + ": upper(" + k + ", " + i + ")", x.get().upper(k, i), model.upper(k, i));
            }
        }
    }

    static void pairs(String name, Fresh x, Model model) {
        int above = 1 << x.get().count(0);
        for (int one = -1; one <= above; one++) {
            for (int other = -1; other <= above; other++) {
                Check.due(name + ": cross(" + one + ", " + other + ")",
                        x.get().cross(one, other), model.cross(one, other));
                if (x.get().rank(one) >= 0 && x.get().rank(other) >= 0) {
                    for (int label = 0; label <= x.get().count(0) + 1; label++) {
                        Check.due(name + ": exchange(" + one + ", " + other + ", " + label + ")",
                                x.get().exchange(one, other, label), model.exchange(one, other, label));
                    }
                }
            }
        }
    }
}
