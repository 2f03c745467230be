/** Calls by their names, for tests that go by rows. */
final class Calls {
    private Calls() {
    }

    static int ask(FacesOfLines f, String call, int... a) {
        return switch (call) {
            case "line" -> f.line(a[0], a[1], a[2], a[3]);
            case "drop" -> f.drop(a[0]);
            case "move" -> f.move(a[0], a[1], a[2], a[3]);
            case "told" -> f.told(a[0], a[1]);
            case "taken" -> f.taken(a[0], a[1]);
            case "cross" -> f.cross(a[0], a[1], a[2]);
            case "point" -> f.point(a[0], a[1]);
            case "order" -> f.order(a[0], a[1], a[2]);
            case "slab" -> f.slab(a[0], a[1]);
            case "cell" -> f.cell(a[0], a[1]);
            case "face" -> f.face(a[0], a[1]);
            case "where" -> f.where(a[0], a[1], a[2]);
            case "on" -> f.on(a[0], a[1], a[2]);
            case "hops" -> f.hops(a[0], a[1]);
            case "count" -> f.count(a[0]);
            case "without" -> f.without(a[0]);
            case "most" -> f.most(a[0]);
            case "drawn" -> f.drawn(a[0], a[1]);
            case "chance" -> f.chance(a[0], a[1], a[2], a[3]);
            case "tells" -> f.tells(a[0], a[1], a[2]);
            case "film" -> f.film(a[0], a[1]);
            case "image" -> f.image();
            case "back" -> f.back();
            case "sheet" -> f.sheet(a[0], a[1], a[2]);
            case "put" -> f.put(a[0], a[1], a[2]);
            case "copy" -> f.copy(a[0], a[1], a[2], a[3], a[4]);
            case "load" -> f.load(a[0], a[1], a[2], a[3]);
            default -> throw new IllegalArgumentException(call);
        };
    }

    /** How many numbers a call takes. */
    static int numbers(String call) {
        return switch (call) {
            case "image", "back" -> 0;
            case "drop", "count", "without", "most" -> 1;
            case "told", "taken", "point", "slab", "cell", "face", "hops", "drawn", "film" -> 2;
            case "cross", "order", "where", "on", "tells", "sheet", "put" -> 3;
            case "copy" -> 5;
            default -> 4;
        };
    }

    /** Whether a call changes something if it isn't refused. */
    static boolean changes(String call) {
        return switch (call) {
            case "line", "drop", "move", "film", "image", "back", "sheet", "put", "copy", "load" -> true;
            default -> false;
        };
    }

    static String text(String call, int... a) {
        StringBuilder b = new StringBuilder(call).append('(');
        for (int i = 0; i < a.length; i++) {
            b.append(i > 0 ? ", " : "").append(a[i]);
        }
        return b.append(')').toString();
    }
}
