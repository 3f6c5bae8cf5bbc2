import java.util.ArrayList;
import java.util.List;

/**
 * All that can be asked of a bourse, in parts. A part may change what it asks for (road() answers what a road was),
 * so each part is asked of an object of its own; with the calls that made it these stay below 512.
 */
final class Questions {
    /** The answers of a part as one row. */
    interface Part {
        void ask(LoadBourse x, List<Integer> answers);
    }

    private static final int[] DAYS = {0, 28, 29, 30, 58, 59, 100, 365};
    private static final int[] LANES = {0, 1, 12, 77};

    private Questions() {
    }

    /** What stands in the bourse itself. */
    static List<Part> ofTheBourse() {
        List<Part> parts = new ArrayList<>(List.of(Questions::lorries, Questions::loads, Questions::giving,
            Questions::firms, Questions::prices, Questions::claims, Questions::roads, Questions::owed));
        for (int half = 0; half < 2; half++) {
            int from = 4 * half;
            parts.add((x, answers) -> chains(x, from, answers));
        }
        return parts;
    }

    static List<Part> ofTheSheets() {
        List<Part> parts = new ArrayList<>();
        parts.add(Questions::proofs);
        for (int s = 0; s < 4; s++) {
            int sheet = s;
            parts.add((x, answers) -> numbers(x, sheet, answers));
        }
        return parts;
    }

    /** What can be undone, and what stands then. */
    static List<Part> ofWhatWasDone() {
        return List.of(Questions::undoing);
    }

    private static void lorries(LoadBourse x, List<Integer> answers) {
        for (int what = 0; what < 5; what++) {
            answers.add(x.all(what));
        }
        for (int lorry = 0; lorry < 6; lorry++) {
            for (int what = 0; what < 8; what++) {
                answers.add(x.lorryIs(lorry, what));
            }
        }
    }

    private static void loads(LoadBourse x, List<Integer> answers) {
        for (int load = 0; load < 8; load++) {
            for (int what = 0; what < 11; what++) {
                answers.add(x.loadIs(load, what));
            }
        }
    }

    private static void giving(LoadBourse x, List<Integer> answers) {
        answers.add(x.best());
        answers.add(x.empty(false));
        answers.add(x.empty(true));
        for (int lorry = 0; lorry < 6; lorry++) {
            answers.add(x.gets(lorry, 0));
            answers.add(x.gets(lorry, 1));
        }
        for (int load = 0; load < 8; load++) {
            answers.add(x.worth(load));
        }
        for (int a = 0; a < 8; a++) {
            for (int b = a + 1; b < 8; b++) {
                answers.add(x.far(a, b));
            }
        }
    }

    private static void firms(LoadBourse x, List<Integer> answers) {
        for (int lorry = 0; lorry < 6; lorry++) {
            answers.add(x.cannot(lorry, false));
            answers.add(x.cannot(lorry, true));
        }
        for (int firm = 0; firm < 10; firm++) {
            answers.add(x.trust(firm, false));
            answers.add(x.trust(firm, true));
            answers.add(x.net(firm));
        }
        for (int i = -1; i < 10; i++) {
            answers.add(x.clearing(i));
        }
    }

    private static void prices(LoadBourse x, List<Integer> answers) {
        for (int lane : LANES) {
            for (int day : DAYS) {
                for (int what = 0; what < 4; what++) {
                    answers.add(x.span(lane, day, what));
                }
            }
        }
    }

    private static void claims(LoadBourse x, List<Integer> answers) {
        answers.add(x.wrong());
        for (int load = 0; load < 8; load++) {
            for (int firm = 0; firm < 10; firm++) {
                answers.add(x.claim(load, 5, firm));
            }
        }
    }

    private static void roads(LoadBourse x, List<Integer> answers) {
        for (int a = 0; a < 8; a++) {
            for (int b = a + 1; b < 8; b++) {
                answers.add(x.road(a, b, 0));
            }
        }
        for (int firm = 0; firm < 10; firm++) {
            answers.add(x.trusts(firm, true));
        }
    }

    private static void owed(LoadBourse x, List<Integer> answers) {
        for (int firm = 0; firm < 10; firm++) {
            for (int to = 0; to < 10; to++) {
                answers.add(x.owe(firm, to, 0));
            }
        }
    }

    private static void chains(LoadBourse x, int from, List<Integer> answers) {
        for (int load = from; load < from + 4; load++) {
            answers.add(x.doubles(load));
            for (int firm = 0; firm < 10; firm++) {
                answers.add(x.chain(load, firm, false));
                answers.add(x.chain(load, firm, true));
            }
        }
    }

    private static void proofs(LoadBourse x, List<Integer> answers) {
        for (int s = 0; s < 4; s++) {
            answers.add(x.proves(s));
        }
    }

    /** Of a sheet: of how many bits it is, how many numbers it has, and those of them that are SIGNS. */
    private static void numbers(LoadBourse x, int s, List<Integer> answers) {
        int other = s == 0 ? 1 : 0;
        for (int bits = 8; bits <= 32; bits *= 2) {
            x.sheet(other, bits, 1);
            for (int i = 0; i <= 20; i++) {
                int copied = x.copy(s, i, other, 0, 1);
                answers.add(copied);
                answers.add(copied == 1 ? x.text(other) : copied);
                answers.add(copied == 1 ? x.claim(0, 7, 0) : copied);
            }
        }
    }

    private static void undoing(LoadBourse x, List<Integer> answers) {
        for (int i = 0; i < 18; i++) {
            answers.add(x.undo());
            for (int what = 0; what < 5; what++) {
                answers.add(x.all(what));
            }
            answers.add(x.loadIs(0, 5));
            answers.add(x.far(0, 1));
            answers.add(x.wrong());
            answers.add(x.net(1));
            answers.add(x.trust(9, true));
        }
    }
}
