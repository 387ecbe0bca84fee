/** A call by hand with what it answers behind Scenes.taken(): done, and refused. All do something to VOLUME 2. */
record Deed(String name, Scene.Asked call, int done, int refused) {
    static final int NO = 0;
    static final int YES = 1;

    private static Deed tried(String name, Scene.Tried call) {
        return new Deed(name, x -> call.on(x) ? YES : NO, YES, NO);
    }

    private static Deed asked(String name, Scene.Asked call, int done) {
        return new Deed(name, call, done, ThinVolumes.NONE);
    }

    /** What can't be done to a VOLUME that is READ ONLY. */
    static Deed[] changes() {
        return new Deed[] {
            tried("write(2, 8, 1)", x -> x.write(2, 8, 1)), tried("write(2, 8, 5), as it is", x -> x.write(2, 8, 5)),
            tried("wipe(2, 8)", x -> x.wipe(2, 8)), tried("bring(2, 1)", x -> x.bring(2, 1)),
            tried("bring(2, 0), as it is", x -> x.bring(2, 0)), tried("size(2, 50)", x -> x.size(2, 50)),
            tried("size(2, 100), as it is", x -> x.size(2, 100)), tried("quota(2, 60)", x -> x.quota(2, 60)),
            tried("quota(2, 50), as it is", x -> x.quota(2, 50)), tried("share(1, 0, 2, 0, 1)", x -> x.share(1, 0, 2, 0, 1)),
            tried("share(1, 5, 2, 5, 1), of nothing", x -> x.share(1, 5, 2, 5, 1)),
            tried("graft(1, 0, 0, 2, 0, 0)", x -> x.graft(1, 0, 0, 2, 0, 0)), tried("fill(2, 0, 3, 1)", x -> x.fill(2, 0, 3, 1)),
            tried("reserve(2, 5)", x -> x.reserve(2, 5)), tried("reserve(2, 0), as it is", x -> x.reserve(2, 0)),
            tried("receive(2)", x -> x.receive(2)), tried("move(2, 8, 0, 1)", x -> x.move(2, 8, 0, 1)),
            tried("move(2, 50, 60, 1), of nothing", x -> x.move(2, 50, 60, 1)), tried("swap(2, 1)", x -> x.swap(2, 1)),
            tried("swap(1, 2)", x -> x.swap(1, 2)), tried("commit(2)", x -> x.commit(2)),
        };
    }

    /** What can be done to any VOLUME, or is done to none. */
    static Deed[] others() {
        return new Deed[] {
            asked("make(5, 5)", x -> x.make(5, 5), 3), asked("take(2, false)", x -> x.take(2, false), 3),
            asked("take(2, true)", x -> x.take(2, true), 3), asked("hold(2, true)", x -> x.hold(2, true), 1),
            asked("free(2)", x -> x.free(2), 0), asked("merge()", ThinVolumes::merge, 2), asked("fold()", ThinVolumes::fold, 0),
            asked("close()", ThinVolumes::close, 0), tried("like(1)", x -> x.like(1)), tried("like(0), as it is", x -> x.like(0)),
            tried("bring(1, 2)", x -> x.bring(1, 2)), tried("share(2, 8, 1, 5, 2)", x -> x.share(2, 8, 1, 5, 2)),
            tried("graft(2, 8, 1, 1, 0, 1)", x -> x.graft(2, 8, 1, 1, 0, 1)),
        };
    }
}
