/** Answers calls by the names of the acts: the class itself, or the model of it. */
interface Caller {
    long call(String name, int... a);
}
