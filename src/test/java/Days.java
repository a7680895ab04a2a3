/** Villages on late days, by few calls. */
final class Days {
    private Days() {
    }

    /** The village on that day; no wrong was done by apples, and lime has grown by 3 a day. */
    static FenceYards at(String text, int day) {
        FenceYards x = Check.village(text);
        x.apples(0);
        goOn(x, day);
        return x;
    }

    /** Years up to that day. */
    static void goOn(FenceYards x, int day) {
        int from = x.count(6);
        for (int at = from; at < day; at = Math.min(at + 30, day)) {
            x.years(Math.min(30, day - at), at);
        }
    }
}
