/** A call of PopPan of which one number is left open. */
interface Ask {
    long of(PopPan x, int v);
}
