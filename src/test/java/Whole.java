import java.util.List;

/**
 * All that can be told of an object after a history of calls: what there is, what is SEEN, THE TAPE, IMAGES,
 * SHEETS. To look at some of these changes them, so that for each part an object is made anew.
 */
final class Whole {
    private final Face face;
    private final List<Face.Call> history;
    private final boolean withFault;
    private final StringBuilder told = new StringBuilder();

    private Whole(Face face, List<Face.Call> history, boolean withFault) {
        this.face = face;
        this.history = history;
        this.withFault = withFault;
    }

    static String of(Face face, List<Face.Call> history, boolean withFault) {
        return new Whole(face, history, withFault).tell();
    }

    private String tell() {
        slope(face.make(history));
        seen(face.make(history));
        Face.Lots taped = face.make(history);
        say(taped, "text");
        say(taped, "fault");
        slope(taped);
        for (int k = 0; k < 2; k++) {
            Face.Lots image = face.make(history);
            say(image, "back", k);
            slope(image);
        }
        for (int k = 0; k < 4; k++) {
            sheet(face.make(history), k);
        }
        sizes(face.make(history));
        return told.toString();
    }

    private long say(Face.Lots x, String name, Object... values) {
        long answer = x.put(name, values);
        told.append(name).append(java.util.Arrays.toString(values)).append('=').append(answer).append('\n');
        return answer;
    }

    private void slope(Face.Lots x) {
        for (int what = 0; what < 6; what++) {
            say(x, "rule", what);
            say(x, "count", what);
        }
        for (int i = 0; i < 7; i++) {
            each(x, "peg", i, 3);
        }
        for (int i = 0; i < 4; i++) {
            say(x, "slug", i);
            each(x, "hedgehog", i, 4);
        }
        for (int i = 0; i < 6; i++) {
            each(x, "suit", i, 3);
        }
        say(x, "torn");
        if (withFault) {
            say(x, "fault");
        }
    }

    private void each(Face.Lots x, String name, int i, int whats) {
        for (int what = 0; what < whats; what++) {
            say(x, name, i, what);
        }
    }

    private void seen(Face.Lots x) {
        for (long left = x.put("count", 0); left >= 0; left--) {
            say(x, "forget", (int) left);
            for (int h = 0; h < 4; h++) {
                say(x, "kinds", h);
                say(x, "speeds", h);
            }
        }
    }

    /** What a sheet has is seen by the pegs that are read of it. */
    private void sheet(Face.Lots x, int k) {
        x.put("end", 0);
        x.put("text");
        for (int lane = 0; lane < 3; lane++) {
            for (int f = 0; f < 5; f++) {
                if (say(x, "read", k, lane, f, 1) == 1) {
                    say(x, "peg", 0, 0);
                    say(x, "peg", 0, 1);
                    x.put("text");
                }
                say(x, "torn");
            }
        }
    }

    private void sizes(Face.Lots x) {
        for (int k = 0; k < 4; k++) {
            for (int i = -1; i <= 41; i++) {
                say(x, "write", k, i, 0);
            }
        }
    }
}
