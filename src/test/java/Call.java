import java.util.function.ToLongFunction;

/** A call with its arguments, so that a test can list calls and make them; true counts 1, false 0. */
record Call(String text, ToLongFunction<PermutationGroups> body) {
    long on(PermutationGroups x) {
        return body.applyAsLong(x);
    }

    static Call add(int g) {
        return new Call("add(" + g + ")", x -> x.add(g));
    }

    static Call remove() {
        return new Call("remove()", x -> x.remove());
    }

    static Call conjugateAll(int h) {
        return new Call("conjugateAll(" + h + ")", x -> x.conjugateAll(h));
    }

    static Call generators() {
        return new Call("generators()", x -> x.generators());
    }

    static Call product(int g, int h) {
        return new Call("product(" + g + ", " + h + ")", x -> x.product(g, h));
    }

    static Call inverse(int g) {
        return new Call("inverse(" + g + ")", x -> x.inverse(g));
    }

    static Call order() {
        return new Call("order()", x -> x.order());
    }

    static Call has(int g) {
        return new Call("has(" + g + ")", x -> x.has(g) ? 1 : 0);
    }

    static Call orbit(int point) {
        return new Call("orbit(" + point + ")", x -> x.orbit(point));
    }

    static Call orbits() {
        return new Call("orbits()", x -> x.orbits());
    }

    static Call fixing(int set) {
        return new Call("fixing(" + set + ")", x -> x.fixing(set));
    }

    static Call keeping(int set) {
        return new Call("keeping(" + set + ")", x -> x.keeping(set));
    }

    static Call images(int set) {
        return new Call("images(" + set + ")", x -> x.images(set));
    }

    static Call commuting(int g) {
        return new Call("commuting(" + g + ")", x -> x.commuting(g));
    }

    static Call alike(int g, int k) {
        return new Call("alike(" + g + ", " + k + ")", x -> x.alike(g, k) ? 1 : 0);
    }

    static Call centre() {
        return new Call("centre()", x -> x.centre());
    }

    static Call commutative() {
        return new Call("commutative()", x -> x.commutative() ? 1 : 0);
    }

    static Call carrier(int from, int to) {
        return new Call("carrier(" + from + ", " + to + ")", x -> x.carrier(from, to));
    }

    static Call normaliser() {
        return new Call("normaliser()", x -> x.normaliser());
    }
}
