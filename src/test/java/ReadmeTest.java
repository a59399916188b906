/** The example in README.md answers what is said there. */
public final class ReadmeTest {
    public static void main(String[] args) {
        Checks c = new Checks();
        LoadStoreQueue q = new LoadStoreQueue(8, 2, 16);
        int store = q.enter(LoadStoreQueue.STORE, 1, 4);
        int load = q.enter(LoadStoreQueue.LOAD, 2, 1);
        c.due("store", store, 0);
        c.due("load", load, 1);
        c.due("setAddress(load, 5)", q.setAddress(load, 5), 0);
        c.due("execute(load)", q.execute(load), LoadStoreQueue.OK);
        c.due("value(load)", q.value(load), 16);
        c.due("setAddress(store, 4)", q.setAddress(store, 4), 1);
        c.due("sameSet(1, 2)", q.sameSet(1, 2), 1);
        c.due("setData(store, 0x44332211)", q.setData(store, 0x44332211), LoadStoreQueue.OK);
        c.due("execute(load)", q.execute(load), LoadStoreQueue.OK);
        c.due("value(load)", q.value(load), 0x22);
        c.due("commit()", q.commit(), LoadStoreQueue.STORE_DONE);
        c.due("commit()", q.commit(), 0x22);
        c.due("drain()", q.drain(), LoadStoreQueue.OK);
        c.end();
    }
}
