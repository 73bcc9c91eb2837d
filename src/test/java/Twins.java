import java.util.function.Supplier;
import java.util.function.ToIntFunction;

/** Refused calls: their answer and STATUS, and that all else is as on a twin that was not asked. */
final class Twins {
    private final Checks checks;
    private final Supplier<Subject> setup;

    Twins(Checks checks, Supplier<Subject> setup) {
        this.checks = checks;
        this.setup = setup;
    }

    /** A call that reads no text. */
    void refused(String what, ToIntFunction<Subject> call, int number) {
        Subject x = setup.get();
        Subject twin = setup.get();
        checks.refused(what, x, call.applyAsInt(x), number);
        checks.due(what + " changes nothing", Snapshot.whole(x), Snapshot.whole(twin));
    }

    /** A call that reads the TAPE: the text is read, and the TAPE empty behind it. */
    void refusedText(String text, String what, ToIntFunction<Subject> call, int number, int place, int fault) {
        Subject x = Checks.tape(setup.get(), text);
        String title = what + " of '" + text + "'";
        checks.refused(title, x, call.applyAsInt(x), number);
        checks.due(title + ", place()", x.place(), place);
        checks.due(title + ", fault()", x.fault(), fault);
        dueKept(title, x);
    }

    /** A call that is refused by a 1 ahead of reading the TAPE: place() and fault() stay, the TAPE is empty. */
    void refusedUnread(String text, String what, ToIntFunction<Subject> call) {
        Subject x = Checks.tape(setup.get(), text);
        Subject twin = setup.get();
        String title = what + " with '" + text + "'";
        checks.refused(title, x, call.applyAsInt(x), 1);
        checks.due(title + ", place()", x.place(), twin.place());
        checks.due(title + ", fault()", x.fault(), twin.fault());
        dueKept(title, x);
    }

    private void dueKept(String title, Subject x) {
        checks.due(title + ", the TAPE", x.count(2), 0);
        checks.due(title + " changes nothing", Snapshot.kept(x), Snapshot.kept(setup.get()));
        checks.due(title + ", the TAPE behind it", x.feed(0, 0, 0, 0, 0), 20);
    }
}
