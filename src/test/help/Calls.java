/** Calls of the document's face by their names. */
final class Calls {
    static final String[] NAMES = {
        "told", "number", "degree", "at", "times", "plus", "derive", "shift", "turn", "common",
        "sums", "factors", "factor", "type", "tally", "group", "changes", "discriminant", "count",
        "reals", "power", "pairs", "status"};

    private Calls() {
    }

    static long call(RootChanges x, String name, int... a) {
        switch (name) {
            case "told": return x.told(a[0], a[1], a[2], a[3], a[4], a[5], a[6], a[7]);
            case "number": return x.number(a[0], a[1]);
            case "degree": return x.degree(a[0]);
            case "at": return x.at(a[0], a[1]);
            case "times": return x.times(a[0], a[1], a[2]);
            case "plus": return x.plus(a[0], a[1], a[2]);
            case "derive": return x.derive(a[0], a[1]);
            case "shift": return x.shift(a[0], a[1], a[2]);
            case "turn": return x.turn(a[0], a[1]);
            case "common": return x.common(a[0], a[1], a[2]);
            case "sums": return x.sums(a[0], a[1], a[2]);
            case "factors": return x.factors(a[0]);
            case "factor": return x.factor(a[0], a[1]);
            case "type": return x.type(a[0], a[1]);
            case "tally": return x.tally(a[0], a[1], a[2]);
            case "group": return x.group(a[0], a[1]);
            case "changes": return x.changes(a[0], a[1]);
            case "discriminant": return x.discriminant(a[0]);
            case "count": return x.count(a[0], a[1], a[2]);
            case "reals": return x.reals(a[0]);
            case "power": return x.power(a[0], a[1], a[2]);
            case "pairs": return x.pairs(a[0], a[1], a[2], a[3]);
            case "status": return x.status();
            default: throw new IllegalArgumentException(name);
        }
    }
}
