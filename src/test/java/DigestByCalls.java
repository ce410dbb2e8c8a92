import java.math.BigInteger;

/** The digest as the document tells it, from the answers of the other calls, wrapped only at the end. */
final class DigestByCalls {
    private BigInteger h = BigInteger.valueOf(17);

    static long of(AnswersFirst x) {
        DigestByCalls d = new DigestByCalls();
        d.goOn(x);
        return d.h.longValue();
    }

    private void mix(long... values) {
        for (long v : values) {
            h = h.multiply(BigInteger.valueOf(31)).add(BigInteger.valueOf(v));
        }
    }

    private void goOn(AnswersFirst x) {
        for (int what = 0; what <= 7; what++) {
            mix(x.count(what));
        }
        mix(x.fault(0), x.fault(1), x.fault(2));
        for (int m = 0; m < x.count(0); m++) {
            mix(x.matter(m, 0), x.matter(m, 1), x.matter(m, 2), x.matter(m, 3), x.matter(m, 4), x.matter(m, 5));
            mix(x.hangs(m));
        }
        mix(x.rows(-1), x.rows(0), x.rows(1), x.sure(0), x.sure(1), x.cannot(0), x.cannot(1));
        mix(x.freed(0), x.freed(1), x.broken(0), x.broken(5), x.broken(1023), x.nearest(5), x.steps(0, 3));
        mix(x.returns(0, 0), x.returns(0, 1), x.rings());
        for (int p = 0; p < 6; p++) {
            mix(x.had(1023, p, 20), x.asked(1023, p, 20), x.best(p, 0), x.best(p, 1), x.owed(p), x.fines(p));
        }
        mix(x.open(1023, 20), x.rows(-1) == 0 ? x.rest(0, 0) : x.rest(x.rows(0), 0));
        mix(x.owed(-1), x.lack(), x.unasked(), x.refused(0), x.refused(1), x.lot(7, 0), x.lot(7, 20));
    }
}
