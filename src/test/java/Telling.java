import java.util.Map;
import java.util.TreeMap;

/**
 * All that can be told of an object, part by part. Telling it spends the object: its acts are undone,
 * its slots gone on from, and its text made the fan.
 */
final class Telling {
    /** A fan on which THE WORD and what is SPIED are told, whatever THE FAN was. */
    private static final String MIRROR = "FB0abcdefghB1ijklmnopB0icabcdef";

    private final FanBlades x;
    private final Map<String, String> parts = new TreeMap<>();
    private StringBuilder part = new StringBuilder();

    private Telling(FanBlades x) {
        this.x = x;
    }

    static Map<String, String> of(FanBlades x) {
        Telling telling = new Telling(x);
        telling.tellAll();
        return telling.parts;
    }

    private void say(long number) {
        part.append(number).append(' ');
    }

    private void end(String name) {
        parts.merge(name, part.toString(), String::concat);
        part = new StringBuilder();
    }

    private void tellAll() {
        say(x.count(0));
        say(x.fault());
        end("text");
        tellGaps();
        say(x.seed(0));
        end("seed");
        tellActs();
        tellSlots();
        tellBlades();
        end("blades");
        say(x.fan());
        tellBlades();
        end("text");
        Check.write(x, MIRROR);
        x.fan();
        tellWord();
        tellSpied();
    }

    private void tellGaps() {
        for (int what = 2; what <= 5; what++) {
            say(x.count(what));
        }
        for (int blade = 0; blade < x.count(1); blade++) {
            say(x.blade(blade, 1));
            say(x.blade(blade, 5));
        }
        end("gaps");
    }

    private void tellActs() {
        int left = x.count(7);
        say(left);
        for (int i = 0; i < 20 && left > 0; i++) {
            left = x.undo();
            say(left);
            say(x.count(4));
        }
        say(x.undo());
        end("acts");
    }

    private void tellSlots() {
        for (int slot = 0; slot < 2; slot++) {
            say(x.again(slot));
            say(x.count(4));
        }
        end("slots");
    }

    /** The letters as they are when the fan is as wide as it can be. */
    private void tellBlades() {
        x.snap();
        for (int i = 0; i < 4; i++) {
            x.fling();
        }
        say(x.count(1));
        for (int blade = 0; blade < x.count(1); blade++) {
            say(x.blade(blade, 0));
        }
        for (int place = 0; place < x.count(2); place++) {
            say(x.look(place, 0, 0));
            say(x.look(place, 1, 0));
        }
    }

    private void tellWord() {
        say(x.count(6));
        for (int side = 0; side < 2; side++) {
            say(x.reads(side));
            say(x.open(side, 0));
            say(x.open(side, 1));
        }
        end("word");
    }

    private void tellSpied() {
        say(x.count(8));
        say(x.gaps(0));
        say(x.gaps(1));
        end("spied");
    }
}
