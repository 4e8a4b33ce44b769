import java.util.Arrays;

/** The methods of the class by their names. */
final class Face {
    private Face() {
    }

    static String shown(String name, int... a) {
        String args = Arrays.toString(a);
        return name + "(" + args.substring(1, args.length() - 1) + ")";
    }

    static long ask(NamedSparks x, String name, int... a) {
        switch (name) {
            case "spark": return x.spark(a[0], a[1], a[2]);
            case "of": return x.of(a[0], a[1]);
            case "person": return x.person(a[0], a[1]);
            case "at": return x.at(a[0], a[1]);
            case "knows": return x.knows(a[0], a[1]);
            case "asks": return x.asks(a[0], a[1], a[2]);
            case "floor": return x.floor(a[0]);
            case "terms": return x.terms(a[0], a[1]);
            case "feed": return x.feed(a[0], a[1], a[2], a[3], a[4]);
            case "end": return x.end(a[0]);
            case "row": return x.row();
            case "ash": return x.ash();
            case "law": return x.law();
            case "orders": return x.orders();
            case "fault": return x.fault();
            case "stopped": return x.stopped();
            case "force": return x.force(a[0]);
            case "call": return x.call(a[0], a[1]);
            case "wet": return x.wet(a[0]);
            case "walk": return x.walk(a[0], a[1]);
            case "pass": return x.pass();
            case "undo": return x.undo();
            case "where": return x.where(a[0], a[1]);
            case "first": return x.first(a[0], a[1]);
            case "chain": return x.chain(a[0], a[1]);
            case "answer": return x.answer(a[0], a[1]);
            case "forget": return x.forget();
            case "which": return x.which();
            case "let": return x.let(a[0]);
            case "alike": return x.alike(a[0]);
            case "anew": return x.anew(a[0]);
            case "guard": return x.guard(a[0], a[1]);
            case "lessons": return x.lessons(a[0]);
            case "drift": return x.drift(a[0], a[1], a[2]);
            case "sodden": return x.sodden(a[0], a[1]);
            case "hot": return x.hot(a[0], a[1]);
            case "nights": return x.nights(a[0], a[1]);
            case "drawn": return x.drawn(a[0], a[1]);
            case "image": return x.image(a[0]);
            case "back": return x.back(a[0]);
            case "count": return x.count(a[0]);
            case "status": return x.status();
            default: throw new IllegalArgumentException(name);
        }
    }
}
