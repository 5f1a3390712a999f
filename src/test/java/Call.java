/** One call with its arguments; those that the method does not take are 0. */
record Call(String method, int a, int b) {
    static Call of(String words) {
        String[] parts = words.split(" ");
        return new Call(parts[0], parts.length > 1 ? Integer.parseInt(parts[1]) : 0,
            parts.length > 2 ? Integer.parseInt(parts[2]) : 0);
    }

    long on(DialMenus x) {
        return method.equals("digest") ? x.digest() : Calls.answer(x, method, a, b);
    }

    static boolean isError(long answer) {
        return answer <= DialMenus.UNKNOWN && answer >= DialMenus.FULL;
    }

    @Override
    public String toString() {
        return method + "(" + a + ", " + b + ")";
    }
}
