import java.util.ArrayList;
import java.util.List;
import java.util.function.Consumer;
import java.util.function.ToLongFunction;

/**
 * "What is refused changes nothing": of two objects brought to the same state one gets the call as
 * well, and then both are asked the same. Each kind of question has two objects of its own, since
 * asking takes calls (and some of it changes what is asked).
 */
final class Untouched {
    /** Puts questions to an object, and answers in order what it said. */
    private interface Asking {
        void ask(PlainLearner x, List<Long> said);
    }

    private static final String[] KINDS =
        {"counts", "nodes", "values", "slopes", "marks and rate", "table", "game", "scores", "text", "merges"};
    private static final Asking[] ASKING = {Untouched::counts, Untouched::nodes, Untouched::values, Untouched::slopes,
        Untouched::training, Untouched::table, Untouched::game, Untouched::scores, Untouched::text, Untouched::merges};

    private Untouched() {
    }

    /** The call answers what is due, in the state, and changes nothing. */
    static void by(String name, Consumer<PlainLearner> state, ToLongFunction<PlainLearner> call, long due) {
        for (int k = 0; k < KINDS.length; k++) {
            PlainLearner without = new PlainLearner();
            PlainLearner with = new PlainLearner();
            state.accept(without);
            state.accept(with);
            long got = call.applyAsLong(with);
            if (k == 0) {
                Check.due(name, got, due);
            }
            List<Long> before = new ArrayList<>();
            List<Long> after = new ArrayList<>();
            ASKING[k].ask(without, before);
            ASKING[k].ask(with, after);
            Check.due(name + ", behind it changed " + KINDS[k] + ":", before.equals(after) ? 0 : 1, 0);
        }
    }

    private static void counts(PlainLearner x, List<Long> said) {
        for (int what = 0; what <= 6; what++) {
            said.add((long) x.count(what));
        }
    }

    private static void nodes(PlainLearner x, List<Long> said) {
        int most = Math.min(x.count(0), 30);
        for (int k = 0; k < most; k++) {
            for (int what = 0; what <= 7; what++) {
                said.add((long) x.node(k, what));
            }
        }
    }

    private static void values(PlainLearner x, List<Long> said) {
        int many = x.count(0);
        for (int k = 0; k < many; k++) {
            int cells = Math.min(x.node(k, 4), 150 / many + 1);
            for (int i = 0; i < cells; i++) {
                said.add(x.value(k, i, 0));
                said.add(x.value(k, i, 1));
            }
        }
    }

    private static void slopes(PlainLearner x, List<Long> said) {
        int last = x.count(0) - 1;
        for (int k = 0; k <= last; k++) {
            said.add(x.slope(last, k, 0, 0));
            said.add(x.slope(last, k, 0, 1));
            said.add(x.ways(last, k));
        }
    }

    /** RATE cannot be asked for: it is seen in what a step makes of leaf 0. */
    private static void training(PlainLearner x, List<Long> said) {
        int many = x.count(0);
        int trained = 0;
        for (int k = 0; k < many; k++) {
            said.add((long) x.parameter(k, true));
            trained = x.node(k, 0) == 0 ? k : trained;
        }
        said.add((long) x.train(trained, 1));
        for (int k = 0; k < many; k++) {
            said.add(x.value(k, 0, 0));
            said.add(x.value(k, 0, 1));
        }
    }

    private static void table(PlainLearner x, List<Long> said) {
        said.add((long) x.best());
        for (int column = 0; column < 4; column++) {
            said.add((long) x.cut(column));
            for (int v = -10; v <= 10; v++) {
                said.add(x.cost(column, v, 0));
                said.add(x.cost(column, v, 1));
            }
        }
    }

    private static void game(PlainLearner x, List<Long> said) {
        int players = x.count(2);
        for (int player = 0; player < players; player++) {
            said.add(x.share(player, 0));
            said.add(x.share(player, 1));
        }
        for (int set = 1; set < 1 << players; set++) {
            said.add((long) x.worth(set, 0));
        }
    }

    private static void scores(PlainLearner x, List<Long> said) {
        for (int kind = 0; kind < 4; kind++) {
            said.add(x.score(kind, 0));
            said.add(x.score(kind, 1));
        }
    }

    private static void text(PlainLearner x, List<Long> said) {
        int many = x.count(4);
        for (int i = 0; i <= many; i++) {
            said.add((long) x.token(i));
        }
    }

    private static void merges(PlainLearner x, List<Long> said) {
        int many = x.count(5);
        for (int i = 0; i < many; i++) {
            for (int what = 0; what < 3; what++) {
                said.add((long) x.merged(i, what));
            }
        }
        said.add((long) x.merge());
        said.add((long) x.encode());
    }
}
