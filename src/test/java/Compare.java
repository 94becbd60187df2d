/** Asks the class and the model the same, all that can be asked without an ACT. */
final class Compare {
    private Compare() {
    }

    static void all(String name, GrassCells x, Model model) {
        labels(name, x, model);
        sets(name, x, model);
        lists(name, x, model);
    }

    private static void labels(String name, GrassCells x, Model model) {
        for (int i = -1; i <= 10; i++) {
            Check.due(name + ": f(" + i + ")", x.f(i), model.f(i));
            Check.due(name + ": neck(" + i + ")", x.neck(i), model.neck(i));
            Check.due(name + ": part(" + i + ")", x.part(i), model.part(i));
            Check.due(name + ": count(" + i + ")", x.count(i), model.count(i));
            Check.due(name + ": has(" + i + ")", x.has(i), model.has(i));
            for (int j = -1; j <= 9; j++) {
                Check.due(name + ": box(" + i + ", " + j + ")", x.box(i, j), model.box(i, j));
            }
        }
    }

    private static void sets(String name, GrassCells x, Model model) {
        int above = 1 << Math.max(2, x.count(0));
        for (int set = -1; set <= above; set++) {
            Check.due(name + ": ways(" + set + ")", x.ways(set), model.ways(set));
            Check.due(name + ": rank(" + set + ")", x.rank(set), model.rank(set));
        }
    }

    private static void lists(String name, GrassCells x, Model model) {
        Check.due(name + ": bases", x.bases(), model.bases());
        for (int k = -2; k < 20; k++) {
            Check.due(name + ": basis(" + k + ")", x.basis(k), model.basis(k));
            Check.due(name + ": cluster(" + k + ")", x.cluster(k), model.cluster(k));
            Check.due(name + ": square(" + k + ")", x.square(k), model.square(k));
        }
        int nexts = Math.max(0, Math.max(x.lower(0, 0), x.upper(0, 0)));
        for (int k = -1; k <= nexts; k++) {
            for (int i = -1; i <= 9; i++) {
                Check.due(name + ": lower(" + k + ", " + i + ")", x.lower(k, i), model.lower(k, i));
                Check.due(name + ": upper(" + k + ", " + i + ")", x.upper(k, i), model.upper(k, i));
            }
        }
    }

    static void pairs(String name, GrassCells x, Model model) {
        int above = 1 << x.count(0);
        for (int one = -1; one <= above; one++) {
            for (int other = -1; other <= above; other++) {
                Check.due(name + ": cross(" + one + ", " + other + ")", x.cross(one, other), model.cross(one, other));
                if (x.rank(one) >= 0 && x.rank(other) >= 0) {
                    for (int label = 0; label <= x.count(0) + 1; label++) {
                        Check.due(name + ": exchange(" + one + ", " + other + ", " + label + ")",
                                x.exchange(one, other, label), model.exchange(one, other, label));
                    }
                }
            }
        }
    }
}
