public final class Promise12MemoryTest {
    public static void main(String[] args) {
        Checks checks = new Checks("promise 12");
        StackMachine m = new StackMachine();
        int store = Programs.write(m, 2, 0, 0, Programs.op(32, 0), Programs.op(32, 1), Programs.op(58, 0));
        int grow = Programs.write(m, 0, 1, 0, Programs.op(65, 5), Programs.op(64));
        int[] none = {-1, 64, 65, 383, 384, Integer.MIN_VALUE, Integer.MAX_VALUE};
        for (int address : none) checks.due("memory(" + address + ")", m.memory(address), -1);
        for (int i = 0; i < 64; i++) Programs.finish(m, store, i, 200 + i);
        for (int i = 0; i < 64; i++) checks.due("memory(" + i + ")", m.memory(i), 200 + i & 255);
        Programs.finish(m, grow);
        for (int i = 0; i < 64; i++) checks.due("it stays", m.memory(i), 200 + i & 255);
        for (int i = 64; i < 384; i++) checks.due("new pages are 0", m.memory(i), 0);
        checks.due("behind the last page", m.memory(384), -1);
        checks.due("ahead of the first", m.memory(-1), -1);
        checks.end();
    }
}
