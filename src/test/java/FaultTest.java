/** Promise 4 (and 5): texts with the FAULT that is due; a caret in a text stands ahead of the byte that is wrong. */
public final class FaultTest {
    private static final int NONE = -1;

    private static final String[] ROADS = {
        "w;r", "r;w", " w ; r ", "w;r;c", "c;w;r", "wf0m1;rt1w0s1;cs1p1n0", "wm20f0;rs3w99t1;cn99p20s9",
        "w;wf1;wf02m20;r t 3", "rt9;w;w;w;w;w;w;w;w;w", "r;r;r;r;r;r;w", "wm01;rw00", "w m 2 f 0 ; r",
        "^", "  ^", "w^", "r^", "w;^", "w;r;^", "w;r; ^", "w;c^", "r;c^", "w;rt^", "w;rt ^", "wm^", "w;rt2^", "rt9;w^",
        "^x", "^;w;r", "^W", "w^w", "w;^;r", "w;r;^;", "w^,", "w ^1", "w;r^:", "^y:1",
        "w^s1;r", "w^t1;r", "w;r^m1", "w;r^f0", "w;r;c^t1", "w;r;c^m1", "w;r;c^w1",
        "wm1^m2", "wm1f0^m", "w;rt1^t", "w;rw1s1^w", "w;r;cs1^s", "w;r;cp1n1^p", "w;r;cn1^n",
        "wm^f", "wm^;", "wm ^x", "w;rt^-1", "wm1 ^2;r", "w m 1 ^0;r",
        "wm^0;r", "wm^0", "wm0^0;r", "wm2^1", "wm2^1;r", "wm9^9", "wm99^9", "wm20^0", "wm00^5;r",
        "wf^1;r", "w;wf^2;r", "w;wf0^2;r", "w;wf1^0", "w;wf9^9", "w;wf^;",
        "w;rt^0", "w;rt1^0", "w;rt00^1", "w;rt0^0", "w;rs^0", "w;rs^4", "w;rs0^4", "w;rw10^0", "w;rw99^9",
        "w;r;cs^0", "w;r;cs1^0", "w;r;cp^0", "w;r;cp2^1", "w;r;cn99^9", "w;r;cn00^0",
        "w;w;w;w;w;w;w;w;w;^w;r", "w;w;w;w;w;w;w;w;w;  ^w", "r;r;r;r;r;r;^r;w", "c;^c", "c;w;r; ^c", "c;w;r;  ^",
        "w;w;w;w;w;w;w;w;w;r;r;r;r;r;r;c;  ^w", "w;w;w;w;w;w;w;w;w;r;r;r;r;r;r;c;  ^r", "w;w;w;w;w;w;w;w;w;r;r;r;r;r;r;c;  ^",
    };

    private static final String[] RULES = {
        "y:m", "y:s", "y:w", "y:n", "y:p", "y:k", "y:0", "y:9999", "y:0001", " y : m ", "y:m;y:s", "y:m+1-2*3/4",
        "y:[m]", "y:[[[[[[m]]]]]]", "y:[m+1]*[s-1]", "y:m=1?1", "y:m<1?1", "y:m>1?1", "y:!m=1?1", "y:(m=1)?1",
        "y:((((((m=1))))))?1", "y:!!!!!!m=1?1", "y:!(![m]=1)?1", "y:(m=1|s=2)&n=3?1;y:2",
        "y:[m]=[s]?[n]", "y:(m=1)&!(s=1)|k<2?p", "y:m=1&s=1&n=1|k=1|k=2?1", "y:!m=1&!m=2&!m=3&!m=4&!m=5&!m=6&!m=7?1",
        "y:[1]+[1]+[1]+[1]+[1]+[1]+[1]+[1]", "y:(m=1)&(m=1)&(m=1)&(m=1)&(m=1)&(m=1)&(m=1)?1", "y:([[[[[m]]]]]=1)?[[[[[[m]]]]]]",
        "^", " ^", "^w;r", "y^", "y ^", "y^m", "y:^", "y: ^", "y:m;^", "y:m;^m", "y:m;y^;",
        "y:^?", "y:m^?1", "y:m+1^?1", "y:m^s", "y:m^1", "y:1^m", "y:1 ^2", "y:1234^5", "y:0000^0", "y:m+1234^5", "y:m^:",
        "y:m+^", "y:m+^+1", "y:m*^;", "y:^-1", "y:^=1", "y:^]", "y:^)", "y:^x", "y:m^]", "y:m^)", "y:m^(", "y:m^!", "y:m^[",
        "y:[m^", "y:[^]", "y:[m^;y:1", "y:[m^=1]", "y:[m^)", "y:[^!m=1]", "y:[^(m)]", "y:[m^?", "y:[m^&", "y:[1]^1",
        "y:m=^", "y:m=1^", "y:m=1^;", "y:m=1^=2", "y:m=1^<2", "y:m=^=1", "y:m<^>1", "y:m=^!", "y:m=^(1)", "y:m=[1]^", "y:m=1^)",
        "y:m=1?^", "y:m=1?^!m=1", "y:m=1?^(m=1)", "y:m=1?m^=1", "y:m=1?m^?1", "y:m=1?1^&", "y:m=1?1;^", "y:m=1^]",
        "y:!^", "y:!m^", "y:!m^?1", "y:!m^;", "y:!m=1^", "y:!m=1^;", "y:!^?", "y:!m=1^)", "y:!!^&",
        "y:(^", "y:(m^", "y:(m^)", "y:(m^;", "y:(m^?", "y:(m=1^", "y:(m=1^?", "y:(m=1^;", "y:(m=1)^", "y:(m=1)^;", "y:(m=1)^=1",
        "y:(m=1)^+1", "y:(m=1)^m", "y:(^)", "y:(m=1|^)", "y:(m=1)&^?", "y:m=1&^", "y:m=1|m^?", "y:m=1&s^;", "y:m=1^!m=1", "y:m=1^(m=1)",
        "y:!!!!!!^!m=1", "y:((((((^(m=1", "y:[[[[[[^[m", "y:!(!(!(^!m=1", "y:!(!(![^[m]", "y:((((([^[m", "y:!!!!!!^[m",
        "y:[[[[[[m]]]]]]+[[[[[[^[m", "y:!!!!!!m=1&!!!!!!^!", "y:m=1?[[[[[[^[", "y:!!!(((m=1)))&(((!!!^(", "y:m= [ [ [ [ [ [ ^[",
    };

    public static void main(String[] args) {
        Check.faults(0, ROADS);
        Check.faults(1, RULES);
        longTexts();
        Check.finish("FaultTest");
    }

    private static void longTexts() {
        WayShares x = new WayShares();
        // 40 CLAUSES: the last ; wants one more.
        StringBuilder text = new StringBuilder();
        for (int k = 0; k < 40; k++) {
            text.append("y:m;");
        }
        Check.tape(x, text.toString());
        Check.due("160 bytes", x.count(3), 160);
        Check.due("they end too early", x.fault(1), 160);
        x.end(159);
        Check.due("39 CLAUSES and one", x.fault(1), NONE);
        Check.due("told", x.text(1), 0);
        text.setLength(0);
        for (int k = 0; k < 79; k++) {
            text.append(k == 0 ? "y:m" : "+m");
        }
        Check.tape(x, text.toString());
        Check.due("a long SUM", x.fault(1), NONE);
        Check.due("told", x.text(1), 1);
        Check.tape(x, "wm20;r");
        x.text(0);
        Check.due("its SHARE", x.share(0, 1, 4, 0), 20);
    }
}
