/** Promise 1. */
public final class NewObjectTest {
    public static void main(String[] args) {
        Check check = new Check();
        MeshRouters x = new MeshRouters();
        check.due("draft()", x.draft(), 0);
        check.due("messages()", x.messages(), 0);
        check.due("crossings()", x.crossings(), 0);
        for (int p = 0; p < 16; p++) {
            check.due("waiting(" + p + ")", x.waiting(p), 0);
            check.due("held(" + p + ")", x.held(p), 0);
            check.due("sum(" + p + ")", x.sum(p), 0);
            check.due("arrived(" + p + ", 0)", x.arrived(p, 0), 0);
            check.due("arrived(0, " + p + ")", x.arrived(0, p), 0);
            check.due("words(" + p + ", 0, 0)", x.words(p, 0, 0), MeshRouters.BAD);
            check.due("word(" + p + ", 0, 0)", x.word(p, 0, 0), 0);
            check.due("take(" + p + ", 0)", x.take(p, 0), MeshRouters.BAD);
        }
        check.due("settle()", x.settle(), 0);
        check.due("wipe()", x.wipe(), 0);

        // Objects share nothing.
        MeshRouters other = new MeshRouters();
        Mesh.send(other, 0, 1, 7);
        other.write(8);
        other.settle();
        check.due("draft() beside another object", x.draft(), 0);
        check.due("messages() beside another object", x.messages(), 0);
        check.due("crossings() beside another object", x.crossings(), 0);
        check.end();
    }
}
