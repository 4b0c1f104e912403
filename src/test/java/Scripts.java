import java.io.ByteArrayOutputStream;
import java.math.BigInteger;
import java.util.ArrayList;
import java.util.Arrays;
import java.util.Collections;
import java.util.HashMap;
import java.util.List;
import java.util.Map;

/** The scripts a second time, written from the document alone, for the Model. */
final class Scripts {
    private static final class Fault extends Exception {
        Fault(String why) {
            super(why, null, false, false);
        }
    }

    private static final Map<String, Boolean> FITS = new HashMap<>();

    private final Model.Tx tx;
    private final int input;
    private final byte[] lock;
    private final int[] asked;
    private final int most;
    private List<byte[]> stack = new ArrayList<>();
    private List<byte[]> side = new ArrayList<>();

    private Scripts(Model.Tx tx, int input, byte[] lock, int[] asked, int most) {
        this.tx = tx;
        this.input = input;
        this.lock = lock;
        this.asked = asked;
        this.most = most;
    }

    static boolean holds(Model.Tx tx, int input, byte[] lock, int[] asked, int most) {
        Scripts scripts = new Scripts(tx, input, lock, asked, most);
        try {
            scripts.run(tx.ins.get(input).script);
            scripts.side = new ArrayList<>();
            scripts.run(lock);
            return !scripts.stack.isEmpty() && isTrue(scripts.stack.get(scripts.stack.size() - 1));
        } catch (Fault e) {
            return false;
        }
    }

    /** What a script leaves that asks for no signature that fits; null if it stops with a fault. */
    static List<byte[]> leaves(byte[] script) {
        Scripts scripts = new Scripts(null, 0, script, new int[1], 8);
        try {
            scripts.run(script);
            return scripts.stack;
        } catch (Fault e) {
            return null;
        }
    }

    static boolean isTrue(byte[] element) {
        for (int i = 0; i < element.length; i++) {
            if (element[i] != 0) {
                return !(i == element.length - 1 && element[i] == (byte) 128);
            }
        }
        return false;
    }

    static byte[] bytes(BigInteger number) {
        if (number.signum() == 0) {
            return new byte[0];
        }
        byte[] high = number.abs().toByteArray(); // has room for a sign
        int skip = high[0] == 0 && high.length > 1 && high[1] >= 0 ? 1 : 0;
        byte[] out = new byte[high.length - skip];
        for (int i = 0; i < out.length; i++) {
            out[i] = high[high.length - 1 - i];
        }
        if (number.signum() < 0) {
            out[out.length - 1] |= (byte) 128;
        }
        return out;
    }

    private static void demand(boolean so, String why) throws Fault {
        if (!so) {
            throw new Fault(why);
        }
    }

    private static BigInteger number(byte[] element) throws Fault {
        demand(element.length <= 4, "too long a number");
        byte[] high = new byte[element.length];
        for (int i = 0; i < high.length; i++) {
            high[i] = element[high.length - 1 - i];
        }
        if (high.length == 0) {
            return BigInteger.ZERO;
        }
        boolean minus = high[0] < 0;
        high[0] &= 127;
        BigInteger number = new BigInteger(1, high);
        return minus ? number.negate() : number;
    }

    private byte[] pop() throws Fault {
        demand(!stack.isEmpty(), "too few elements");
        return stack.remove(stack.size() - 1);
    }

    private byte[][] pop(int n) throws Fault {
        byte[][] out = new byte[n][];
        for (int i = n - 1; i >= 0; i--) {
            out[i] = pop();
        }
        return out;
    }

    private void push(byte[]... elements) {
        stack.addAll(Arrays.asList(elements));
    }

    private void push(long number) {
        push(bytes(BigInteger.valueOf(number)));
    }

    private void run(byte[] script) throws Fault {
        List<Boolean> parts = new ArrayList<>();
        int operations = 0;
        int at = 0;
        while (at < script.length) {
            int code = script[at++] & 255;
            boolean done = !parts.contains(false);
            if (code <= 77) {
                int wide = code == 76 ? 1 : code == 77 ? 2 : 0;
                demand(at + wide <= script.length, "no size");
                int size = code;
                if (wide > 0) {
                    size = script[at] & 255;
                    if (wide == 2) {
                        size += 256 * (script[at + 1] & 255);
                    }
                }
                at += wide;
                demand(size <= 120 && at + size <= script.length, "push");
                if (done) {
                    push(Arrays.copyOfRange(script, at, at + size));
                }
                at += size;
                demand(stack.size() + side.size() <= 60, "too many elements");
                continue;
            }
            if (code > 96) {
                operations++;
                demand(operations <= 100, "too many operations");
            }
            if (code == 99 || code == 100) {
                parts.add(done && isTrue(pop()) == (code == 99));
            } else if (code == 103) {
                demand(!parts.isEmpty(), "103 alone");
                parts.set(parts.size() - 1, !parts.get(parts.size() - 1));
            } else if (code == 104) {
                demand(!parts.isEmpty(), "104 alone");
                parts.remove(parts.size() - 1);
            } else if (done) {
                operations += operate(code);
                demand(operations <= 100, "too many operations");
            }
            demand(stack.size() + side.size() <= 60, "too many elements");
        }
        demand(parts.isEmpty(), "no 104");
    }

    /** Does one operation; tells how many more it counts for. */
    private int operate(int code) throws Fault {
        byte[][] x;
        if (code == 79 || code >= 81 && code <= 96) {
            push(code - 80);
        } else if (code >= 139 && code <= 165) {
            calculate(code);
        } else {
            switch (code) {
                case 97: break;
                case 105: demand(isTrue(pop()), "105"); break;
                case 107: side.add(pop()); break;
                case 108:
                    demand(!side.isEmpty(), "too few elements");
                    push(side.remove(side.size() - 1));
                    break;
                case 109: pop(2); break;
                case 110: x = pop(2); push(x[0], x[1], x[0], x[1]); break;
                case 111: x = pop(3); push(x); push(x); break;
                case 112: x = pop(4); push(x); push(x[0], x[1]); break;
                case 113: x = pop(6); push(x[2], x[3], x[4], x[5], x[0], x[1]); break;
                case 114: x = pop(4); push(x[2], x[3], x[0], x[1]); break;
                case 115: x = pop(1); push(x); if (isTrue(x[0])) push(x); break;
                case 116: push(stack.size()); break;
                case 117: pop(); break;
                case 118: x = pop(1); push(x[0], x[0]); break;
                case 119: x = pop(2); push(x[1]); break;
                case 120: x = pop(2); push(x[0], x[1], x[0]); break;
                case 121:
                case 122: {
                    BigInteger n = number(pop());
                    demand(n.signum() >= 0 && n.compareTo(BigInteger.valueOf(stack.size())) < 0, "n");
                    int place = stack.size() - 1 - n.intValue();
                    push(code == 121 ? stack.get(place) : stack.remove(place));
                    break;
                }
                case 123: x = pop(3); push(x[1], x[2], x[0]); break;
                case 124: x = pop(2); push(x[1], x[0]); break;
                case 125: x = pop(2); push(x[1], x[0], x[1]); break;
                case 130: x = pop(1); push(x); push(x[0].length); break;
                case 135:
                case 136: x = pop(2); told(Arrays.equals(x[0], x[1]), code == 136); break;
                case 166: push(Crypto.ripe(pop())); break;
                case 168: push(Crypto.digest(pop())); break;
                case 169: push(Crypto.ripe(Crypto.digest(pop()))); break;
                case 170: push(Crypto.name(pop())); break;
                case 172:
                case 173: x = pop(2); told(fits(x[0], x[1]), code == 173); break;
                case 174:
                case 175: return several(code == 175);
                default: throw new Fault("another code");
            }
        }
        return 0;
    }

    private void told(boolean so, boolean must) throws Fault {
        if (must) {
            demand(so, "not true");
        } else {
            push(so ? 1 : 0);
        }
    }

    private void calculate(int code) throws Fault {
        demand(code != 141 && code != 142 && !(code > 148 && code < 154), "another code");
        int n = code < 147 ? 1 : code < 165 ? 2 : 3;
        byte[][] x = pop(n);
        BigInteger[] v = new BigInteger[n];
        for (int i = 0; i < n; i++) {
            v[i] = number(x[i]);
        }
        BigInteger a = v[0];
        BigInteger b = n > 1 ? v[1] : null;
        boolean noA = a.signum() == 0;
        boolean noB = n > 1 && b.signum() == 0;
        int order = n > 1 ? a.compareTo(b) : 0;
        switch (code) {
            case 139: push(bytes(a.add(BigInteger.ONE))); break;
            case 140: push(bytes(a.subtract(BigInteger.ONE))); break;
            case 143: push(bytes(a.negate())); break;
            case 144: push(bytes(a.abs())); break;
            case 145: told(noA, false); break;
            case 146: told(!noA, false); break;
            case 147: push(bytes(a.add(b))); break;
            case 148: push(bytes(a.subtract(b))); break;
            case 154: told(!noA && !noB, false); break;
            case 155: told(!(noA && noB), false); break;
            case 156: told(order == 0, false); break;
            case 157: told(order == 0, true); break;
            case 158: told(order != 0, false); break;
            case 159: told(order < 0, false); break;
            case 160: told(order > 0, false); break;
            case 161: told(order <= 0, false); break;
            case 162: told(order >= 0, false); break;
            case 163: push(bytes(a.min(b))); break;
            case 164: push(bytes(a.max(b))); break;
            default: told(b.compareTo(a) <= 0 && a.compareTo(v[2]) < 0, false);
        }
    }

    private int several(boolean must) throws Fault {
        BigInteger n = number(pop());
        demand(n.signum() >= 0 && n.compareTo(BigInteger.valueOf(8)) <= 0, "n");
        List<byte[]> keys = new ArrayList<>(Arrays.asList(pop(n.intValue())));
        BigInteger m = number(pop());
        demand(m.signum() >= 0 && m.compareTo(n) <= 0, "m");
        List<byte[]> signatures = new ArrayList<>(Arrays.asList(pop(m.intValue())));
        pop();
        Collections.reverse(keys);
        Collections.reverse(signatures);
        while (!signatures.isEmpty() && signatures.size() <= keys.size()) {
            if (fits(signatures.get(0), keys.get(0))) {
                signatures.remove(0);
            }
            keys.remove(0);
        }
        told(signatures.isEmpty(), must);
        return n.intValue();
    }

    private boolean fits(byte[] signature, byte[] key) throws Fault {
        asked[0]++;
        demand(asked[0] <= most, "too many signatures");
        if (signature.length == 0) {
            return false;
        }
        BigInteger[] numbers = Crypto.numbers(signature);
        if (numbers == null) {
            return false;
        }
        BigInteger z = signed(tx, input, lock, signature[signature.length - 1] & 255);
        String memo = Model.hex(signature) + Model.hex(key) + z;
        Boolean before = FITS.get(memo);
        if (before == null) {
            BigInteger[] point = Crypto.point(key);
            before = point != Crypto.NONE && Crypto.fits(numbers, point, z);
            FITS.put(memo, before);
        }
        return before;
    }

    /** The number that is signed. */
    static BigInteger signed(Model.Tx tx, int input, byte[] lock, int kind) {
        int k = kind & 31;
        if (k == 3 && input >= tx.outs.size()) {
            return BigInteger.ONE;
        }
        ByteArrayOutputStream out = new ByteArrayOutputStream();
        out.writeBytes(tx.version);
        ByteArrayOutputStream ins = new ByteArrayOutputStream();
        int many = 0;
        for (int i = 0; i < tx.ins.size(); i++) {
            Model.In in = tx.ins.get(i);
            if (i != input && kind >= 128) {
                continue;
            }
            many++;
            ins.writeBytes(in.name);
            ins.writeBytes(Model.low(in.index, 4));
            byte[] script = i == input ? lock : new byte[0];
            ins.write(script.length);
            ins.writeBytes(script);
            ins.writeBytes(i != input && (k == 2 || k == 3) ? new byte[4] : in.sequence);
        }
        out.write(many);
        out.writeBytes(ins.toByteArray());
        int outputs = k == 2 ? 0 : k == 3 ? input + 1 : tx.outs.size();
        out.write(outputs);
        for (int i = 0; i < outputs; i++) {
            boolean blank = k == 3 && i < input;
            byte[] script = blank ? new byte[0] : tx.outs.get(i).script;
            out.writeBytes(Model.low(blank ? -1 : tx.outs.get(i).value.longValue(), 8));
            out.write(script.length);
            out.writeBytes(script);
        }
        out.writeBytes(tx.time);
        out.writeBytes(Model.low(kind, 4));
        return new BigInteger(1, Crypto.name(out.toByteArray()));
    }
}
