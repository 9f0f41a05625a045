import java.util.function.ToIntFunction;

/** A call of the document with its arguments, to be made on any object; true counts 1, and no answer 0. */
record Call(String text, ToIntFunction<DumpLevels> ask) {
    int on(DumpLevels x) {
        return ask.applyAsInt(x);
    }

    /** The name of the method that is called. */
    String method() {
        return text.substring(0, text.indexOf('('));
    }
}
