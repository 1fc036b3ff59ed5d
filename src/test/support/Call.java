/** A call of the face; a number that it does not take is 0. */
record Call(String kind, int a, int b) {
    @Override
    public String toString() {
        return kind + "(" + a + ", " + b + ")";
    }

    int on(CutPoints x) {
        switch (kind) {
            case "clear":
                x.clear();
                return 0;
            case "node":
                return x.node();
            case "arc":
                return x.arc(a, b);
            case "turn":
                return x.turn(a);
            case "count":
                return x.count(a);
            case "part":
                return x.part(a);
            case "bridge":
                return x.bridge(a);
            case "falls":
                return x.falls(a);
            case "block":
                return x.block(a);
            case "twin":
                return x.twin(a);
            case "arcs":
                return x.arcs(a, b);
            case "side":
                return x.side(a, b);
            case "nodes":
                return x.nodes(a, b);
            case "between":
                return x.between(a, b);
            case "mends":
                return x.mends(a, b);
            case "way":
                return x.way(a);
            case "together":
                return x.together(a, b);
            case "splits":
                return x.splits(a, b);
            case "worn":
                return x.worn();
            default:
                throw new IllegalArgumentException(kind);
        }
    }
}
