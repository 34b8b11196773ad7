/** Calls that bring an object somewhere; the same steps bring each new object to the same place. */
interface Steps {
    void on(DodgingHangman x);

    default Steps then(Steps next) {
        return x -> {
            on(x);
            next.on(x);
        };
    }

    default DodgingHangman made() {
        DodgingHangman x = new DodgingHangman();
        on(x);
        return x;
    }
}
