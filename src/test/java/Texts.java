/** Feeds texts to an object's TAPE, eight bytes at a time. */
final class Texts {
    private Texts() {
    }

    /** The bytes from a place on, the first of them lowest. */
    static long eightFrom(String text, int from, int n) {
        long eight = 0;
        for (int i = n - 1; i >= 0; i--) {
            eight = eight << 8 | text.charAt(from + i) & 255;
        }
        return eight;
    }

    static int feed(WeatherDisguise x, String text) {
        int answer = 0;
        for (int from = 0; from < text.length(); from += 8) {
            int n = Math.min(8, text.length() - from);
            answer = x.feed(eightFrom(text, from, n), n);
        }
        return answer;
    }

    static int city(WeatherDisguise x, String text) {
        feed(x, text);
        return x.city();
    }
}
