/** One call: how it is told, what it must answer by the model, and the call itself. */
record Step(String told, String due, Call call) {
    interface Call {
        Object on(CountedObjects x);
    }

    /** What it answers, or the name of what it throws. */
    String answer(CountedObjects x) {
        try {
            return call.on(x).toString();
        } catch (RuntimeException e) {
            return e.getClass().getSimpleName();
        }
    }
}
