/** Objects, and polynomials, that several tests start from. */
final class Made {
    /** x^32 + x^22 + x^2 + x + 1, which is primitive. */
    static final long WIDE = 0x100400007L;
    /** One of each degree from 1 on, well known ones. */
    static final long[] PRIMITIVE = {
        0x3, 0x7, 0xB, 0x13, 0x25, 0x43, 0x83, 0x11D, 0x211, 0x409, 0x805, 0x1053, 0x201B, 0x402B,
        0x8003, 0x1002D, 0x20009, 0x40081, 0x80027, 0x100009, 0x200005, 0x400003, 0x800021,
        0x1000087, 0x2000009, 0x4000047, 0x8000027, 0x10000009, 0x20000005, 0x40000053L,
        0x80000009L, WIDE
    };

    private Made() {
    }

    static ShiftSignatures of(long p, long... masks) {
        ShiftSignatures x = new ShiftSignatures();
        x.polynomial(p);
        for (long mask : masks) {
            x.channel(mask);
        }
        return x;
    }

    /** The bits 0 and 1 of the register modulo x^3 + x + 1, and an AND of them that is the output. */
    static ShiftSignatures small() {
        ShiftSignatures x = of(11, 1, 2);
        x.gate(ShiftSignatures.AND, 0, 1);
        x.output(2);
        return x;
    }

    /** Eight channels, with no circuit behind them. */
    static ShiftSignatures eightChannels() {
        ShiftSignatures x = of(0x11D, 1, 2, 4, 8, 16, 32, 64, 128);
        x.load(0x35);
        return x;
    }

    /** All that can be full is: 8 channels, 24 gates of all kinds, 16 outputs. */
    static ShiftSignatures full() {
        ShiftSignatures x = eightChannels();
        fill(x, 8);
        return x;
    }

    /** 24 gates behind so many channels, and 16 outputs. */
    static void fill(ShiftSignatures x, int channels) {
        for (int g = 0; g < 24; g++) {
            int last = channels + g - 1;
            x.gate((g + 2) % 6, last, g % channels);
        }
        for (int i = 0; i < 16; i++) {
            x.output(channels + 23 - i);
        }
    }

    static long product(long a, long b) {
        long sum = 0;
        for (int k = 0; k < 33; k++) {
            if ((b >> k & 1) == 1) {
                sum ^= a << k;
            }
        }
        return sum;
    }
}
