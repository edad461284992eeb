import java.io.ByteArrayInputStream;
import java.io.DataInputStream;
import java.io.IOException;
import java.io.InputStream;
import java.lang.reflect.Modifier;
import java.nio.ByteBuffer;
import java.util.ArrayList;
import java.util.HashMap;
import java.util.HashSet;
import java.util.List;
import java.util.Map;
import java.util.Set;
import java.util.TreeMap;
import java.util.TreeSet;

/** Rules of LANGUAGE.md that the compiled classes tell better than the source's lines. */
public final class ClassFileTests {
    private static final Checks CHECKS = new Checks();
    private static final Set<String> LIBRARY = Set.of("java/lang/Object.<init>",
            "java/lang/String.length", "java/lang/String.charAt", "java/lang/Math.abs",
            "java/lang/Math.max", "java/lang/Math.min", "java/lang/Math.floorDiv",
            "java/lang/Math.floorMod", "java/lang/Integer.bitCount");
    private static final String[] FACE = {"int feed(int,int,int,int,int)", "boolean end(int)",
        "int text()", "int fault(int)", "int loom(int)", "int letter(int,int,int)",
        "int card(int,int)", "int pack(int,int)", "int belt(int,int,int)", "int shown(int,boolean)",
        "int turn(int,int)", "boolean unweave()", "boolean shift(int)", "boolean string(int)",
        "boolean undo()", "int strip(boolean)", "int woven(int,int,int)", "int barred(int)",
        "int apart()", "int both(int,int)", "int nearest(int)", "int wrong(int)", "int mend()",
        "int sure(int,int)", "long ask()", "int image()", "int octet(int)", "boolean on()"};
    private static final int DEEPEST = 8;
    private static final int NEW = 187;
    private static final int NEW_ARRAY = 188;
    private static final int NEW_ARRAY_OF_OBJECTS = 189;
    private static final int NEW_ARRAY_OF_ARRAYS = 197;

    /** Which methods of our own each method calls. */
    private static final Map<String, Set<String>> CALLS = new TreeMap<>();

    /** One compiled class, read from its first byte to the end of its methods. */
    private static final class Compiled {
        private final DataInputStream in;
        private final Object[] pool;
        private final String name;

        Compiled(byte[] bytes) throws IOException {
            in = new DataInputStream(new ByteArrayInputStream(bytes));
            in.readInt();
            in.readInt();
            pool = new Object[in.readUnsignedShort()];
            for (int i = 1; i < pool.length; i++) {
                int tag = in.readUnsignedByte();
                switch (tag) {
                    case 1: pool[i] = in.readUTF(); break;
                    case 3: case 4: in.readInt(); break;
                    case 5: case 6: in.readLong(); i++; break;
                    case 7: case 8: case 16: case 19: case 20:
                        pool[i] = new int[] {in.readUnsignedShort()}; break;
                    case 9: case 10: case 11: case 12: case 17: case 18:
                        pool[i] = new int[] {in.readUnsignedShort(), in.readUnsignedShort()}; break;
                    default: in.skipBytes(3); break;
                }
            }
            in.readUnsignedShort();
            name = textAt(in.readUnsignedShort());
            in.readUnsignedShort();
            in.skipBytes(2 * in.readUnsignedShort());
        }

        private int part(int at, int which) {
            return ((int[]) pool[at])[which];
        }

        private String textAt(int at) {
            return (String) pool[part(at, 0)];
        }

        private String methodAt(int at) {
            return textAt(part(at, 0)) + "." + (String) pool[part(part(at, 1), 0)];
        }

        void members() throws IOException {
            for (int kind = 0; kind < 2; kind++) {
                int many = in.readUnsignedShort();
                for (int i = 0; i < many; i++) {
                    in.readUnsignedShort();
                    String member = name + "." + pool[in.readUnsignedShort()];
                    in.readUnsignedShort();
                    attributes(member);
                }
            }
        }

        private void attributes(String member) throws IOException {
            int many = in.readUnsignedShort();
            for (int i = 0; i < many; i++) {
                boolean code = "Code".equals(pool[in.readUnsignedShort()]);
                byte[] bytes = new byte[in.readInt()];
                in.readFully(bytes);
                if (code) {
                    ByteBuffer all = ByteBuffer.wrap(bytes);
                    int length = all.getInt(4);
                    CHECKS.due("what " + member + " catches", all.getShort(8 + length), 0);
                    CALLS.put(member, new TreeSet<>());
                    steps(member, all.slice(8, length));
                }
            }
        }

        private void steps(String member, ByteBuffer code) {
            for (int at = 0; at < code.limit(); at += length(code, at)) {
                int step = code.get(at) & 255;
                if (step >= 182 && step <= 184) {
                    called(member, methodAt(code.getShort(at + 1) & 0xffff));
                }
                CHECKS.due("a step of " + member + " that may throw or is none of the language",
                        step == 191 || step == 192 || step == 193 || step == 186 || step == 194, false);
                boolean makes = step == NEW || step == NEW_ARRAY || step == NEW_ARRAY_OF_OBJECTS
                        || step == NEW_ARRAY_OF_ARRAYS;
                CHECKS.due(member + " makes an object", makes && !member.endsWith(".<init>"), false);
            }
        }

        private static void called(String member, String other) {
            if (other.startsWith("QueenBelt")) {
                CALLS.get(member).add(other);
            } else {
                CHECKS.due(member + " calls " + other, LIBRARY.contains(other), true);
            }
        }

        private static int length(ByteBuffer code, int at) {
            int step = code.get(at) & 255;
            int even = (at + 4) / 4 * 4;
            if (step == 170) {
                return even + 12 + 4 * (code.getInt(even + 8) - code.getInt(even + 4) + 1) - at;
            }
            if (step == 171) {
                return even + 8 + 8 * code.getInt(even + 4) - at;
            }
            if (step == 196) {
                return (code.get(at + 1) & 255) == 132 ? 6 : 4;
            }
            if (step == 185 || step == 186 || step >= 200) {
                return 5;
            }
            if (step == NEW_ARRAY_OF_ARRAYS) {
                return 4;
            }
            boolean two = step == 16 || step == 18 || step >= 21 && step <= 25
                    || step >= 54 && step <= 58 || step == 169 || step == NEW_ARRAY;
            boolean three = step == 17 || step == 19 || step == 20 || step == 132
                    || step >= 153 && step <= 168 || step >= 178 && step <= 184 || step == NEW
                    || step == NEW_ARRAY_OF_OBJECTS || step == 192 || step == 193
                    || step == 198 || step == 199;
            return two ? 2 : three ? 3 : 1;
        }
    }

    private static void read(String name) throws IOException {
        try (InputStream in = ClassFileTests.class.getResourceAsStream("/" + name + ".class")) {
            new Compiled(in.readAllBytes()).members();
        }
    }

    private static Set<String> reachedFrom(String method) {
        Set<String> reached = new HashSet<>();
        List<String> next = new ArrayList<>(CALLS.get(method));
        while (!next.isEmpty()) {
            String one = next.remove(next.size() - 1);
            if (reached.add(one)) {
                next.addAll(CALLS.getOrDefault(one, Set.of()));
            }
        }
        return reached;
    }

    /** Methods that call one another count as one. */
    private static int depth(String method, Map<String, Set<String>> reached,
            Map<String, Integer> known) {
        if (known.containsKey(method)) {
            return known.get(method);
        }
        Set<String> ring = new TreeSet<>(Set.of(method));
        for (String other : reached.get(method)) {
            if (reached.get(other).contains(method)) {
                ring.add(other);
            }
        }
        int deepest = 0;
        for (String one : ring) {
            for (String other : CALLS.get(one)) {
                if (!ring.contains(other)) {
                    deepest = Math.max(deepest, depth(other, reached, known));
                }
            }
        }
        known.put(method, deepest + 1);
        return deepest + 1;
    }

    private static void depths() {
        Map<String, Set<String>> reached = new HashMap<>();
        for (String method : CALLS.keySet()) {
            reached.put(method, reachedFrom(method));
        }
        Map<String, Integer> known = new HashMap<>();
        int deepest = 0;
        for (String method : CALLS.keySet()) {
            int depth = depth(method, reached, known);
            CHECKS.due("calls of " + method + " go " + depth + " deep", depth > DEEPEST, false);
            deepest = Math.max(deepest, depth);
        }
        CHECKS.due("deep calls were found", deepest > 4, true);
        CHECKS.due("methods were found", CALLS.size() > 100, true);
    }

    private static void face() {
        Set<String> due = new HashSet<>(Set.of(FACE));
        for (var method : QueenBelt.class.getDeclaredMethods()) {
            if (Modifier.isPrivate(method.getModifiers())) {
                continue;
            }
            StringBuilder all = new StringBuilder(method.getReturnType() + " " + method.getName() + "(");
            for (Class<?> one : method.getParameterTypes()) {
                all.append(one).append(',');
            }
            String told = all.toString().replaceAll(",$", "") + ")";
            CHECKS.due("the face has " + told, due.remove(told), true);
            CHECKS.due(told + " is public and no more", method.getModifiers(), Modifier.PUBLIC);
        }
        CHECKS.due("calls that the face lacks", due.size(), 0);
        CHECKS.due("constructors", QueenBelt.class.getDeclaredConstructors().length, 1);
        CHECKS.due("it is public and final", QueenBelt.class.getModifiers(),
                Modifier.PUBLIC | Modifier.FINAL);
        int constants = 0;
        for (var field : QueenBelt.class.getDeclaredFields()) {
            if (!Modifier.isPrivate(field.getModifiers())) {
                CHECKS.due("a constant " + field.getName(), field.getModifiers(),
                        Modifier.PUBLIC | Modifier.STATIC | Modifier.FINAL);
                constants++;
            }
        }
        CHECKS.due("constants", constants, 2);
    }

    public static void main(String[] args) throws IOException {
        face();
        read("QueenBelt");
        for (Class<?> inside : QueenBelt.class.getDeclaredClasses()) {
            CHECKS.due(inside.getName() + " is static", Modifier.isStatic(inside.getModifiers()), true);
            read(inside.getName());
        }
        depths();
        CHECKS.end();
    }
}
