import java.util.ArrayList;
import java.util.LinkedHashMap;
import java.util.List;
import java.util.Map;
import java.util.function.Consumer;
import java.util.function.Function;
import java.util.function.Supplier;

/**
 * Looks at all that an object can answer, its tape and what comes next too, to see that a call has left it as it
 * was. Each look has a new object of its own, as some of them change it, and stays below its 512 calls.
 */
final class Look {
    private static final Map<String, Function<DistanceSolver, String>> LOOKS = looks();

    private Look() {
    }

    private static Map<String, Function<DistanceSolver, String>> looks() {
        Map<String, Function<DistanceSolver, String>> all = new LinkedHashMap<>();
        all.put("counts", s -> told(s, 0, 1, 3, 6));
        all.put("core", s -> told(s, 2) + list(s.told(2) + 1, s::core));
        all.put("fault", s -> "" + s.fault());
        all.put("constraints", s -> list(5 * s.told(0), i -> s.constraint(i / 5, i % 5)));
        all.put("values", s -> list(16, s::value));
        all.put("bounds", s -> list(256, i -> s.bound(i / 16, i % 16)));
        for (int place = 0; place < 3; place++) {
            int at = place;
            all.put("why at " + at, s -> list(256, i -> s.why(i / 16, i % 16, at)));
        }
        all.put("atoms", s -> list(3 * s.told(3) + 1, i -> s.atom(i / 3, i % 3)));
        all.put("ways", s -> s.ways() + rows(s) + list(s.told(3) + 1, s::must));
        all.put("values in rows", s -> list(160, i -> s.valueIn(s.way(i / 16), i % 16)));
        all.put("written", s -> told(s, 5) + list(Math.min(s.told(5) + 1, 300), s::written));
        all.put("written, checked", s -> s.check(false) + " " + s.fault());
        all.put("tape", s -> told(s, 4));
        all.put("tape, read", s -> s.read() + told(s, 0, 1, 2, 3, 4, 5, 6) + s.fault() + list(3 * s.told(3), i -> s.atom(i / 3, i % 3)) + s.ways());
        all.put("tape, checked", s -> s.check(true) + told(s, 4) + s.fault());
        all.put("then prove", s -> s.prove() + told(s, 5) + list(Math.min(s.told(5), 300), s::written));
        all.put("then push", s -> answer(s::push) + told(s, 1) + answer(() -> s.pop(1)) + told(s, 0, 1));
        all.put("then pop", s -> answer(() -> s.pop(1)) + told(s, 0, 1) + answer(() -> s.pop(s.told(1))) + told(s, 0, 1));
        all.put("then add", s -> answer(() -> s.add(15, 15, 3)) + answer(() -> s.add(14, 13, -4)) + told(s, 0));
        return all;
    }

    private static String rows(DistanceSolver s) {
        StringBuilder b = new StringBuilder();
        int row = s.way(0);
        for (int i = 0; i < 100 && row != DistanceSolver.NONE; i++) {
            b.append(' ').append(row);
            row = s.way(row + 1);
        }
        return b.append('.').toString();
    }

    private static String told(DistanceSolver s, int... whats) {
        StringBuilder b = new StringBuilder(" told");
        for (int what : whats) {
            b.append(' ').append(s.told(what));
        }
        return b.append(". ").toString();
    }

    private interface Asked {
        long at(int i);
    }

    private static String list(int count, Asked asked) {
        StringBuilder b = new StringBuilder();
        for (int i = 0; i < count; i++) {
            int place = i;
            b.append(' ').append(answer(() -> asked.at(place)));
        }
        return b.append(". ").toString();
    }

    static String answer(Due.Call call) {
        try {
            return "" + call.run();
        } catch (RuntimeException e) {
            return e.getClass().getSimpleName();
        }
    }

    /** Two ways to make an object, between which no call but those of the looks that are left out can tell. */
    static void alike(String what, Supplier<DistanceSolver> one, Supplier<DistanceSolver> other, String... leftOut) {
        List<String> out = new ArrayList<>(List.of(leftOut));
        for (Map.Entry<String, Function<DistanceSolver, String>> look : LOOKS.entrySet()) {
            if (!out.remove(look.getKey())) {
                String due = look.getValue().apply(other.get());
                Due.is(what + ": " + look.getKey(), look.getValue().apply(one.get()), due);
            }
        }
        Due.is("looks that are none", out.size(), 0);
    }

    /** A call after which all is as before, but for the looks that are left out. */
    static void asBefore(String what, Supplier<DistanceSolver> made, Consumer<DistanceSolver> call, String... leftOut) {
        alike("after " + what, () -> {
            DistanceSolver s = made.get();
            answer(() -> {
                call.accept(s);
                return 0;
            });
            return s;
        }, made, leftOut);
    }

    // ---- objects with something of everything

    /** Three constraints, two levels, a core, a proof, a formula with ways, the fault 2, and a text on the tape. */
    static DistanceSolver some() {
        return some(new DistanceSolver());
    }

    static DistanceSolver some(DistanceSolver s) {
        s.add(1, 2, 3);
        s.push();
        s.add(2, 3, -1);
        s.add(3, 1, -2);
        s.push();
        s.add(2, 1, -4);
        Due.read(s, "a-b>3");
        s.prove();
        Due.read(s, "a-b<=2|c-d=4");
        Due.read(s, "a<");
        Due.feed(s, "~b<7");
        return s;
    }

    /** All that there is room for: 60 constraints, 20 levels, 10 atoms, 400 bytes; a core of 16, a proof. */
    static DistanceSolver full() {
        return full(new DistanceSolver());
    }

    static DistanceSolver full(DistanceSolver s) {
        for (int k = 0; k < 60; k++) {
            if (k % 3 == 0) {
                s.push();
            }
            if (k == 15) {
                s.add(15, 0, -16);
            }
            s.add(k % 15, k % 15 + 1, k < 15 ? 1 : k);
        }
        Due.read(s, "a-b>1&c-d>7");
        s.prove();
        Due.read(s, "a-b>0|b-c>0|c-d>0|d-e>0|e-f>0|f-g>0|g-h>0|h-i>0|i-j>0|j-k>0");
        Due.feed(s, "z = 0" + " ".repeat(395));
        return s;
    }
}
